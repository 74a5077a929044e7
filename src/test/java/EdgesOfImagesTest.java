/** Boundary cases of images, and of an object's 512 calls: promises 33 and 34, and what the document says ahead of them. */
final class EdgesOfImagesTest {
    private static final Due due = new Due();
    private static final int NONE = Edges.NONE;
    private static final String FULL = Edges.proof("12") + Edges.chains("0123") + Edges.readers(2, "32", "-1");

    public static void main(String[] args) throws Exception {
        Edges.run(EdgesOfImagesTest.class, due);
    }

    private static final int[] WHATS = {0, 1, 10, 11, 12, 20, 21, 22, 23, 30, 31, 40, 41, 100, 101, 110, 111};

    /** How it stands: tape, FAULT, PAPERS, WEEKS, LOGS, and some of what comes of them; in fewer than a hundred calls. */
    private static String told(ProofLine x) {
        StringBuilder s = new StringBuilder();
        // The tapes of these tests are short: twenty bytes may come, and go again.
        int bytes = x.feed(0, 0, 0, 0, 0) - 20;
        s.append(x.end(bytes)).append(" bytes ").append(x.fault(0)).append(" at ").append(x.fault(1));
        for (int i = 0; i < 3; i++) {
            s.append(" count ").append(x.count(i));
        }
        for (int i = 0; i < 2; i++) {
            s.append("\nPAPER");
            for (int what : WHATS) {
                s.append(" ").append(x.paper(i, what));
            }
            s.append("\nWEEK ").append(x.deed(i, NONE, 0)).append("\nLOG ").append(x.fact(i, NONE, 0));
            for (int k = 0; k < 2; k++) {
                s.append(" ").append(x.deed(i, k, 0)).append(x.deed(i, k, 1)).append(x.deed(i, k, 2));
                s.append(" ").append(x.fact(i, k, 0)).append(x.fact(i, k, 1));
            }
            s.append("\nORDER ").append(x.order(i, NONE)).append(" FIT ").append(x.fits(0, i, 0)).append(x.fits(i, 0, 10));
            s.append(" STOP ").append(x.stop(i, 0)).append(" STEPS ").append(x.steps(i, 0, 3));
        }
        return s.toString();
    }

    private static ProofLine full() {
        ProofLine x = Edges.papers(FULL, "word 9;");
        Due.text(x, 1, NONE, "read 0;set 0 9;");
        Due.text(x, 2, NONE, "was 0 2;");
        Due.text(x, 0, 1, "word 10;");
        Due.tape(x, "was 1 1;");
        return x;
    }

    static void promise33_k_is_0_to_2() {
        ProofLine x = new ProofLine();
        for (int k = 0; k < 3; k++) {
            due.is("image " + k, x.image(k), true);
        }
        due.is("image 3", x.image(3), false);
        due.is("image -1", x.image(-1), false);
        for (int odd : Edges.ODD) {
            due.is("image " + odd, x.image(odd), false);
        }
    }

    static void promise33_false_changes_no_image() {
        ProofLine x = Edges.papers("word 1;");
        x.image(0);
        Due.text(x, 0, 0, "word 2;");
        due.is("image 3", x.image(3), false);
        due.is("image -1", x.image(-1), false);
        due.is("again 0", x.again(0), true);
        due.is("as it was", x.paper(0, 10), 1);
    }

    static void promise33_an_image_is_all_that_is_told() {
        ProofLine x = full();
        String was = told(x);
        due.is("image", x.image(1), true);
        due.is("nothing is changed by it", told(x).equals(was), true);
        due.is("the tape's LOG", x.text(2, NONE), 1);
        Due.text(x, 0, 0, "");
        Due.text(x, 0, 1, Edges.proof("7777") + Edges.readers(1, "1111"));
        Due.text(x, 1, 0, "print;print;print;");
        Due.text(x, 1, NONE, "");
        Due.text(x, 2, 0, "was 7 7;was 6 6;");
        Due.tape(x, "!");
        x.text(2, 0);
        Due.tape(x, "something else");
        due.is("all is another", told(x).equals(was), false);
        due.is("again", x.again(1), true);
        due.is("all is as it was:\n" + was + "\n" + told(x), told(x).equals(was), true);
        due.is("the tape, too", x.text(2, NONE), 1);
        due.is("its FACT", x.fact(1, 0, 0), 1);
    }

    static void promise33_an_image_of_a_new_object() {
        ProofLine x = new ProofLine();
        due.is("image", x.image(2), true);
        String was = told(new ProofLine());
        Due.text(x, 0, NONE, FULL);
        Due.text(x, 1, NONE, "print;");
        Due.text(x, 2, NONE, "was 0 0;");
        Due.text(x, 2, NONE, "!");
        Due.tape(x, "word 1;");
        due.is("again", x.again(2), true);
        due.is("as new", told(x).equals(was), true);
        due.is("no PAPERS", x.count(0), 0);
        due.is("no FAULT", x.fault(0), 0);
        due.is("no tape", x.end(1), NONE);
        due.is("the first PAPER again", Due.text(x, 0, NONE, "word 4;"), 0);
        due.is("its PLACES", x.paper(0, 0), 1);
    }

    static void promise33_an_image_is_as_it_is_then_not_later() {
        ProofLine x = Edges.papers("word 1;");
        x.image(0);
        Due.text(x, 0, NONE, "word 2;");
        x.image(1);
        Due.text(x, 0, 0, "word 3;");
        x.image(0);
        Due.text(x, 0, 0, "word 4;");
        due.is("again 0", x.again(0), true);
        due.is("the later image 0", x.paper(0, 10), 3);
        due.is("two PAPERS", x.count(0), 2);
        due.is("again 1", x.again(1), true);
        due.is("the PAPER then", x.paper(0, 10), 1);
        due.is("two PAPERS", x.count(0), 2);
    }

    static void promise34_false_where_there_is_none_such_and_all_stays() {
        ProofLine x = full();
        String was = told(x);
        for (int k = -1; k < 5; k++) {
            due.is("again " + k, x.again(k), false);
        }
        for (int odd : Edges.ODD) {
            due.is("again " + odd, x.again(odd), false);
        }
        due.is("all stays", told(x).equals(was), true);
        x.image(1);
        due.is("image 0 is not made by image 1", x.again(0), false);
        due.is("nor 2", x.again(2), false);
        due.is("1 is", x.again(1), true);
        due.is("3 is not", x.again(3), false);
        due.is("all stays", told(x).equals(was), true);
    }

    static void promise34_other_images_stay_and_the_same() {
        ProofLine x = Edges.papers("word 0;");
        for (int k = 0; k < 3; k++) {
            Due.text(x, 0, 0, "word " + k + ";");
            due.is("image " + k, x.image(k), true);
        }
        for (int k : new int[] {2, 0, 1, 1, 2, 0}) {
            due.is("again " + k, x.again(k), true);
            due.is("its WORD", x.paper(0, 10), k);
            // What is told behind again is not told of the image.
            Due.text(x, 0, 0, "word 9;");
            Due.text(x, 1, NONE, "print;");
        }
        due.is("again 2", x.again(2), true);
        due.is("no WEEK of it", x.count(1), 0);
    }

    static void promise34_answers_are_of_what_is_again() {
        // ORDER and FITS, asked ahead of it, are of another PAPER and LOG behind it.
        ProofLine x = Edges.logs(Edges.proof("0") + Edges.chains("012") + Edges.readers(1, "2", "2", "0"), "was 0 2;");
        x.image(0);
        due.is("ORDER", x.order(0, 0), 2);
        due.is("FIT", x.fits(0, 0, 0), 2);
        Due.text(x, 0, 0, Edges.proof("2") + Edges.readers(1, "2"));
        Due.text(x, 2, 0, "was 0 1;");
        due.is("ORDER", x.order(0, NONE), 1);
        due.is("FIT", x.fits(0, 0, 0), 0);
        x.again(0);
        due.is("ORDER again", x.order(0, 0), 2);
        due.is("how much", x.order(0, NONE), 2);
        due.is("FIT again", x.fits(0, 0, 0), 2);
        due.is("STEPS again", x.steps(0, 0, 2), 2);
    }

    /** A call that asks, by number; there are as many as ASKS. */
    private static long ask(ProofLine x, int number) {
        int paper = number % 2;
        int other = number / 2 % 2;
        int what = number / 4 % 9;
        int more = what < 5 ? what : 5 + what;
        boolean which = number / 4 % 2 == 0;
        switch (number / 36) {
            case 0: return x.reading(paper, other, what % 2 == 0 ? what % 4 / 2 : 10 + what / 2);
            case 1: return x.rounds(paper, what < 2 ? what : 8 + what);
            case 2: return x.order(paper, what - 1);
            case 3: return x.desks(paper, 2 + other, what - 1);
            case 4: return x.quarrel(paper, other, 1 - other, what / 2, which);
            case 5: return x.signs(paper, which);
            case 6: return x.vote(paper, what);
            case 7: return x.fits(paper, other, what);
            case 8: return x.fits(paper, other, 10 + what);
            case 9: return x.ahead(paper, other, what % 3, (what + 1) % 3, which);
            case 10: return x.firsts(paper, other, what);
            case 11: return x.drawn(paper, what, 60, 10 * other);
            case 12: return x.drawn(paper, what, 20, 50 + what);
            case 13: return x.kin(paper, what);
            case 14: return x.distance(paper, what / 3, what % 3);
            case 15: return x.peace(paper, which);
            case 16: return x.median(paper, what, other == 0);
            case 17: return x.rise(paper, more);
            case 18: return x.lastWord(paper, more);
            case 19: return x.after(paper, other, what);
            case 20: return x.state(paper, other, what, 10);
            case 21: return x.state(paper, other, what, 20 * other);
            case 22: return x.stop(paper, other);
            case 23: return x.steps(paper, what, 0);
            default: return x.towards(paper, 9 - what, other);
        }
    }

    private static final int ASKS = 25 * 36;

    private static ProofLine rich() {
        ProofLine x = Edges.papers(
            Edges.proof("01205") + Edges.chains("01234560", "04", "78") + Edges.readers(2, "23401", "0-123", "51--0"),
            Edges.proof("4410") + Edges.chains("0142", "13") + Edges.readers(1, "0123", "3-00"));
        Due.text(x, 1, NONE, "print;read 0;part 0 1;read 1;stet 1 2;print;set 0 9;read 1;print;");
        Due.text(x, 1, NONE, "read 1;print;read 1;join 5 0;read 0;print;set 1 8;");
        Due.text(x, 2, NONE, "");
        Due.text(x, 2, NONE, "was 1 0;");
        return x;
    }

    static void promise6_to_31_an_answer_does_not_hang_on_what_was_asked_ahead() {
        long[] alone = new long[ASKS];
        for (int i = 0; i < ASKS; i++) {
            alone[i] = ask(rich(), i);
        }
        int[] strides = {1, ASKS - 1, 7, 37, 361};
        for (int stride : strides) {
            ProofLine x = rich();
            for (int i = 0, at = 0; i < ASKS; i++, at = (at + stride) % ASKS) {
                // Not more than 512 calls of one object.
                x = i % 450 == 0 ? rich() : x;
                due.is("ask " + at + " by strides of " + stride, ask(x, at), alone[at]);
            }
        }
        for (int i = 0; i < ASKS; i++) {
            ProofLine x = rich();
            ask(x, i);
            due.is("ask " + i + " once more", ask(x, i), alone[i]);
        }
    }

    static void promise1_each_object_is_by_itself() {
        ProofLine x = full();
        ProofLine y = new ProofLine();
        due.is("no PAPERS of the other one", y.count(0), 0);
        x.image(0);
        due.is("no image of the other one", y.again(0), false);
        due.is("no FAULT of the other one", y.fault(0), 0);
        Due.text(y, 0, NONE, "word 5;");
        due.is("the first one stays", x.paper(0, 10), 1);
    }

    static void promise1_an_object_is_used_for_512_calls() {
        ProofLine x = new ProofLine();
        int calls = 0;
        for (int i = 0; calls < 500; i++, calls += 5) {
            x.feed(0x776f7264, 0x20303b20, 0x72656164, 0x65722031, 0x20313b20);
            due.is("text", x.text(0, i < 2 ? NONE : i % 2), i % 2);
            due.is("places", x.paper(i % 2, 0), 1);
            due.is("image", x.image(i % 3), true);
            due.is("again", x.again(i % 3), true);
        }
        for (; calls < 511; calls++) {
            due.is("order", x.order(calls % 2, 0), 0);
        }
        due.is("the 512th", x.rounds(1, 0), 0);
    }
}
