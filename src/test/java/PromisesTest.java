/** The promises of the document, one by one, on papers worked out by hand: ordinary inputs, edges, wrong inputs. */
final class PromisesTest {
    private static final Due due = new Due();
    private static final int MIN = Integer.MIN_VALUE;
    private static final int MAX = Integer.MAX_VALUE;
    private static final int[] ODD = {-1, -2, -3, -100, 600, 1000000, MIN, MIN + 7, MAX, MAX - 3};

    /** A ring of the words 0 to 4, and the couple 5 6. */
    private static final String NETS = "near 0 1;near 1 2;near 2 3;near 3 4;near 4 0;near 5 6;";
    private static final String A = "word 0;word 3;word 5;" + NETS + "reader 2 3;reader 1 4;reader 0 9;"
        + "wants 0 0 2;wants 0 1 3;wants 1 0 4;wants 1 2 6;wants 2 2 7;";
    private static final String WEEK = "print;read 1;read 0;stet 0 0;read 0;set 2 6;join 1 4;part 5 6;print;"
        + "read 2;read 1;stet 0 0;print;";

    public static void main(String[] args) {
        newObject();
        tape();
        texts();
        faults();
        paperTold();
        deedsTold();
        weekRuns();
        weekStops();
        words();
        readings();
        roundsOfAll();
        orders();
        desksOfReaders();
        quarrels();
        signsAndVotes();
        comes();
        logs();
        draws();
        kinOfWords();
        readersApart();
        rises();
        lastWords();
        images();
        nothingThere();
        due.finish();
    }

    private static ProofLine with(String... papers) {
        ProofLine x = new ProofLine();
        for (int i = 0; i < papers.length; i++) {
            due.is("text of paper " + i, Due.text(x, 0, -1, papers[i]), i);
        }
        return x;
    }

    private static ProofLine with(String paper, int sort, String other) {
        ProofLine x = with(paper);
        due.is("text of " + other, Due.text(x, sort, -1, other), 0);
        return x;
    }

    private static void newObject() {
        due.at("promise 1");
        ProofLine x = new ProofLine();
        for (int sort = 0; sort < 3; sort++) {
            due.is("count " + sort, x.count(sort), 0);
            due.is("again " + sort, x.again(sort), false);
        }
        due.is("end", x.end(1), -1);
        due.is("fault", x.fault(0), 0);
        due.is("fault's place", x.fault(1), -1);
        due.is("NONE", ProofLine.NONE, -1);
        due.at("promise 32");
        for (int odd : ODD) {
            due.is("count " + odd, x.count(odd), -2);
        }
        due.is("count 3", x.count(3), -2);
    }

    private static void tape() {
        due.at("promise 2");
        ProofLine x = new ProofLine();
        // "word 9; near 1 2; re" and "ader 3 4;" and zeros: highest bytes first.
        due.is("feed", x.feed(0x776f7264, 0x20393b20, 0x6e656172, 0x20312032, 0x3b207265), 20);
        due.is("feed", x.feed(0x61646572, 0x20332034, 0x3b000000, 0, 0), 40);
        due.at("promise 3");
        due.is("end 41", x.end(41), -1);
        due.is("end -1", x.end(-1), -1);
        due.is("end 40", x.end(40), 40);
        due.is("end 29", x.end(29), 29);
        due.is("end 30", x.end(30), -1);
        due.is("end MIN", x.end(MIN), -1);
        due.is("text", x.text(0, -1), 0);
        due.is("word", x.paper(0, 10), 9);
        due.is("near", x.paper(0, 21), 4);
        due.is("days", x.paper(0, 40), 4);
        due.is("end 0", x.end(0), 0);
        due.is("end 1", x.end(1), -1);
        due.at("promise 2");
        for (int i = 1; i <= 30; i++) {
            due.is("feed " + i, x.feed(-1, 0x20202020, i, MAX, MIN), 20 * i);
        }
        due.is("feed 31", x.feed(0, 0, 0, 0, 0), -1);
        due.is("end 600", x.end(600), 600);
        due.is("end 581", x.end(581), 581);
        due.is("feed again", x.feed(0, 0, 0, 0, 0), -1);
        due.is("end 580", x.end(580), 580);
        due.is("feed again", x.feed(0, 0, 0, 0, 0), 600);
        due.is("text", x.text(0, -1), -1);
        due.is("fault of the byte 255", x.fault(1), 0);
    }

    private static void texts() {
        due.at("promise 4");
        ProofLine x = with("word 1;", "word 2;");
        due.is("a third paper", Due.text(x, 0, -1, "word 3;"), -2);
        due.is("tape is empty", x.end(1), -1);
        due.is("no fault", x.fault(0), 0);
        due.is("in place of 1", Due.text(x, 0, 1, "word 4;word 5;"), 1);
        due.is("paper 0", x.paper(0, 10), 1);
        due.is("paper 1", x.paper(1, 11), 5);
        due.is("count", x.count(0), 2);
        due.is("in place of 2", Due.text(x, 0, 2, "word 4;"), -2);
        due.is("a fault in place of 0", Due.text(x, 0, 0, "word;"), -1);
        due.is("tape is empty", x.end(1), -1);
        due.is("paper 0 as it was", x.paper(0, 10), 1);
        due.is("fault", x.fault(0), 1);
        due.is("no such sort", Due.text(x, 3, -1, "word;"), -2);
        due.is("no fault", x.fault(0), 0);
        due.is("no place", x.fault(1), -1);
        due.is("tape is empty", x.end(1), -1);
        for (int odd : ODD) {
            due.is("sort " + odd, x.text(odd, -1), -2);
            due.is("at " + odd, x.text(1, odd), odd == -1 ? 0 : -2);
        }
        due.is("a week", Due.text(x, 1, -1, "print;"), 1);
        due.is("a third week", Due.text(x, 1, -1, "print;"), -2);
        due.is("a log", Due.text(x, 2, -1, "was 0 0;"), 0);
        due.is("a log", Due.text(x, 2, -1, ""), 1);
        due.is("a third log", Due.text(x, 2, -1, ""), -2);
        due.is("log 0 anew", Due.text(x, 2, 0, "was 1 1;was 2 2;"), 0);
        due.is("its facts", x.fact(0, -1, 0), 2);
        due.is("log 1's facts", x.fact(1, -1, 0), 0);
        due.is("counts", 100 * x.count(0) + 10 * x.count(1) + x.count(2), 222);
        // A shorter text in place of a longer one leaves nothing of it.
        due.is("all", Due.text(x, 0, 0, A), 0);
        due.is("less", Due.text(x, 0, 0, "word 0;word 0;word 0;reader 1 1;"), 0);
        due.is("nothing wanted", x.paper(0, 100), 10);
        due.is("none near", x.paper(0, 20), 0);
        due.is("no steps", x.steps(0, 0, 1), -1);
        due.is("one reader", x.paper(0, 1), 1);
    }

    private static void fault(int sort, String text, int fault, int place) {
        ProofLine x = new ProofLine();
        due.is("text «" + text + "»", Due.text(x, sort, -1, text), fault == 0 ? 0 : -1);
        due.is("fault of «" + text + "»", x.fault(0), fault);
        due.is("place of «" + text + "»", x.fault(1), place);
        for (int odd : ODD) {
            due.is("fault " + odd, x.fault(odd), -1);
        }
        due.is("fault 2", x.fault(2), -1);
    }

    private static void faults() {
        due.at("promise 5");
        fault(0, "", 0, -1);
        fault(0, " \n ", 0, -1);
        fault(0, "  word\n3 ;word4;", 0, -1);
        fault(0, "word 04;near 00 09;", 0, -1);
        fault(0, "word 3", 1, 6);
        fault(0, "word 3 \n", 1, 8);
        fault(0, "word", 1, 4);
        fault(0, "wor 3;", 1, 0);
        fault(0, "wordy 3;", 1, 0);
        fault(0, "Word 3;", 1, 0);
        fault(0, "xord 3;", 1, 0);
        fault(0, "wordz 3;", 1, 0);
        fault(0, "aword 3;", 1, 0);
        fault(0, "word{3;", 1, 4);
        fault(0, "word`3;", 1, 4);
        fault(0, "word:3;", 1, 4);
        fault(0, "word/3;", 1, 4);
        fault(0, "word 3;\tword 3;", 1, 7);
        fault(0, "word 3;;", 1, 7);
        fault(0, "word 003;", 1, 5);
        fault(0, "word 3 003;", 1, 7);
        fault(0, "word 3 3;", 1, 7);
        fault(0, "near 12;", 1, 7);
        fault(0, "near 12 34", 1, 10);
        fault(0, "read 1;", 1, 0);
        fault(0, "word -1;", 1, 5);
        fault(0, "word 10;", 2, 5);
        fault(0, "word 10;word", 1, 12);
        fault(0, "near 10 10;", 2, 5);
        fault(0, "near 4 04;", 2, 7);
        fault(0, "reader 9 9;reader 0 1;", 0, -1);
        fault(0, "reader 10 9;", 2, 7);
        fault(0, "reader 9 10;", 2, 9);
        fault(0, "reader 9 0;", 2, 9);
        fault(0, "wants 6 0 0;", 2, 6);
        fault(0, "wants 5 8 0;", 2, 8);
        fault(0, "wants 5 7 10;", 2, 10);
        fault(0, "wants 5 7 9;", 4, 12);
        fault(0, "wants 0 0 1;reader 1 1;word 1; ", 0, -1);
        fault(0, "wants 1 0 1;reader 1 1; ", 4, 24);
        fault(0, "wants 0 0 1;reader 1 1; ", 5, 24);
        fault(0, "word 1;wants 0 1 1;reader 1 1;", 5, 30);
        String readers = "reader 1 1;".repeat(6);
        fault(0, readers, 0, -1);
        fault(0, readers + "reader 1 1;", 3, 66);
        fault(0, readers + "reader 1 0;", 3, 66);
        fault(0, "reader 1 0;" + readers, 2, 9);
        // A PLACE with a NUMBER that can't be counts all the same, but its fault is ahead.
        fault(0, "word 1;".repeat(8), 0, -1);
        fault(0, "word 1;".repeat(9), 3, 56);
        fault(0, "word 1;".repeat(8) + "word 99;", 3, 56);
        fault(0, "word 1;".repeat(9) + "print;", 1, 63);
        fault(1, "read 5;set 7 9;stet 5 7;join 0 9;part 9 0;print;", 0, -1);
        fault(1, "read 6;", 2, 5);
        fault(1, "set 8 0;", 2, 4);
        fault(1, "set 0 10;", 2, 6);
        fault(1, "stet 6 0;", 2, 5);
        fault(1, "stet 0 8;", 2, 7);
        fault(1, "join 10 0;", 2, 5);
        fault(1, "join 0 10;", 2, 7);
        fault(1, "part 3 3;", 2, 7);
        fault(1, "print 1;", 1, 6);
        fault(1, "set 1;", 1, 5);
        fault(1, "was 1 1;", 1, 0);
        fault(1, "print;".repeat(40), 0, -1);
        fault(1, "print;".repeat(40) + "read 0;", 3, 240);
        fault(2, "was 7 9;", 0, -1);
        fault(2, "was 8 9;", 2, 4);
        fault(2, "was 7 10;", 2, 6);
        fault(2, "was 7;", 1, 5);
        fault(2, "word 7;", 1, 0);
        fault(2, "was 0 0;".repeat(8), 0, -1);
        fault(2, "was 0 0;".repeat(9), 3, 64);
    }

    private static void paperTold() {
        due.at("promise 6");
        ProofLine x = with(A);
        int[] told = {0, 3, 1, 3, 10, 0, 11, 3, 12, 5, 13, -1, 20, 18, 21, 5, 22, 10, 23, 20, 24, 9, 25, 64, 26, 32,
            27, 0, 29, 0, 30, 2, 31, 1, 32, 0, 33, -1, 40, 3, 41, 4, 42, 9, 43, -1, 100, 2, 101, 3, 102, 10, 103, -1,
            108, -1, 110, 4, 111, 10, 112, 6, 120, 10, 122, 7, 123, -1, 130, -1, 2, -1, 9, -1, 18, -1, 36, -1, 50, -1,
            60, -1, 99, -1};
        for (int i = 0; i < told.length; i += 2) {
            due.is("paper " + told[i], x.paper(0, told[i]), told[i + 1]);
        }
        for (int odd : ODD) {
            due.is("what " + odd, x.paper(0, odd), -1);
            due.is("paper " + odd, x.paper(odd, 0), -1);
        }
        // Later wants strike, all others are further ones.
        x = with("word 1;wants 0 0 4;near 1 2;near 2 1;reader 1 1;wants 0 0 5;");
        due.is("the later want", x.paper(0, 100), 5);
        due.is("near", x.paper(0, 21), 4);
        x = with("word 0;".repeat(8) + "reader 1 1;".repeat(6) + "wants 5 7 9;");
        due.is("the last want", x.paper(0, 157), 9);
        due.is("one behind", x.paper(0, 158), -1);
    }

    private static void deedsTold() {
        due.at("promise 7");
        ProofLine x = with("", 1, "read 3;set 1 2;stet 4 5;join 6 7;part 8 9;print;");
        int[][] deeds = {{0, 3, -1}, {1, 1, 2}, {2, 4, 5}, {3, 6, 7}, {4, 8, 9}, {5, -1, -1}};
        due.is("how many", x.deed(0, -1, 0), 6);
        due.is("how many 1", x.deed(0, -1, 1), -2);
        for (int k = 0; k < 6; k++) {
            for (int what = 0; what < 3; what++) {
                due.is("deed " + k + " " + what, x.deed(0, k, what), deeds[k][what]);
            }
            due.is("deed " + k + " 3", x.deed(0, k, 3), -2);
            due.is("deed " + k + " -1", x.deed(0, k, -1), -2);
        }
        due.is("deed 6", x.deed(0, 6, 0), -2);
        due.is("deed -2", x.deed(0, -2, 0), -2);
        due.is("week 1", x.deed(1, -1, 0), -2);
        due.is("week -1", x.deed(-1, -1, 0), -2);
        due.at("promise 20");
        x = with("", 2, "was 7 9;was 0 3;");
        int[] calls = {-1, 0, 2, -1, 1, -2, 0, 0, 7, 0, 1, 9, 1, 0, 0, 1, 1, 3, 1, 2, -2, 1, -1, -2, 2, 0, -2, -2, 0, -2};
        for (int i = 0; i < calls.length; i += 3) {
            due.is("fact " + calls[i] + " " + calls[i + 1], x.fact(0, calls[i], calls[i + 1]), calls[i + 2]);
        }
        due.is("log 1", x.fact(1, -1, 0), -2);
        for (int odd : ODD) {
            due.is("fact odd " + odd, x.fact(0, odd, odd), -2);
            due.is("deed odd " + odd, x.deed(0, odd, odd), -2);
        }
    }

    private static void weekRuns() {
        ProofLine x = with(A, 1, WEEK);
        due.at("promise 8");
        due.is("stop", x.stop(0, 0), 11);
        due.at("promise 9");
        int[] states = {
            0, 0, 0, 0, 1, 0, 0, 10, 0, 0, 12, 5, 0, 20, 10, 0, 30, 1, 0, 31, 0, 0, 40, 0, 0, 50, 18, 0, 59, 0,
            1, 1, 1, 1, 20, 0, 1, 21, 3, 1, 22, 5, 1, 23, -2, 1, 13, -2, 1, 33, -2, 1, 43, -2,
            2, 0, 1, 2, 10, 4, 2, 31, 1, 2, 20, 0, 3, 0, 2, 3, 10, 3, 3, 31, 0, 4, 40, 1, 4, 41, 0,
            5, 0, 2, 5, 10, 3, 6, 12, 6, 6, 31, 1, 6, 0, 2, 7, 51, 21, 7, 54, 11, 8, 55, 0, 8, 56, 0, 7, 55, 64,
            9, 1, 2, 9, 20, 3, 9, 22, 6, 10, 0, 2, 11, 0, 3, 11, 10, 4, 11, 31, 2, 11, 20, 3,
            12, 0, -2, 13, 0, -2, -1, 0, -2, 11, 2, -2, 11, 9, -2, 11, 60, -2, 11, -1, -2};
        for (int i = 0; i < states.length; i += 3) {
            due.is("state " + states[i] + " " + states[i + 1], x.state(0, 0, states[i], states[i + 1]), states[i + 2]);
        }
        for (int odd : ODD) {
            due.is("n " + odd, x.state(0, 0, odd, 0), -2);
            due.is("what " + odd, x.state(0, 0, 0, odd), -2);
        }
        due.at("promise 30");
        int[] behind = {1, 1, 1, 5, 2, -2};
        for (int what = 0; what < 6; what++) {
            due.is("after " + what, x.after(0, 0, what), behind[what]);
        }
        due.is("after -1", x.after(0, 0, -1), -2);
        due.is("the paper stays", x.paper(0, 21), 5);
    }

    private static int stopOf(String paper, String week) {
        return with(paper, 1, week).stop(0, 0);
    }

    private static void weekStops() {
        due.at("promise 8");
        due.is("no reader", stopOf(A, "print;read 3;"), 1);
        due.is("no place", stopOf(A, "set 3 0;"), 0);
        due.is("no place, another word", stopOf(A, "set 2 1;set 3 1;"), 1);
        due.is("the same word", stopOf(A, "set 1 3;"), 0);
        due.is("another word", stopOf(A, "set 1 2;set 1 2;"), 1);
        due.is("no reader to leave", stopOf(A, "stet 3 0;"), 0);
        due.is("no place to leave", stopOf(A, "stet 0 3;"), 0);
        due.is("left by two", stopOf(A, "stet 0 0;stet 1 0;stet 0 1;stet 0 0;"), 3);
        due.is("near", stopOf(A, "join 1 3;join 3 1;"), 1);
        due.is("not near", stopOf(A, "part 1 3;"), 0);
        due.is("parted", stopOf(A, "part 1 0;part 0 1;"), 1);
        due.is("nothing", stopOf(A, ""), 0);
        due.is("all", stopOf(A, "print;".repeat(40)), 40);
        due.at("promise 30");
        ProofLine x = with(A, 1, "read 2;set 0 9;set 0 0;print;print;set 0 9;print;set 0 0;print;");
        int[] behind = {-1, -1, 4, 1, 2};
        for (int what = 0; what < 5; what++) {
            due.is("after " + what, x.after(0, 0, what), behind[what]);
        }
        x = with(A, 1, "read 2;read 1;read 0;");
        due.is("busiest, the least of two", x.after(0, 0, 1), 0);
        due.is("first", x.after(0, 0, 0), 1);
        x = with("", 1, "print;print;");
        due.is("editions of nothing", x.after(0, 0, 4), 1);
        due.is("touched nothing", x.after(0, 0, 3), 0);
        // A parted couple is far at once, a joined one near.
        x = with("word 0;near 0 1;near 1 2;near 2 3;reader 9 1;wants 0 0 3;", 1, "read 0;part 1 2;read 0;join 1 3;read 0;");
        int[] stands = {0, 1, 1, 1, 1, 3};
        for (int n = 0; n < 6; n++) {
            due.is("stands behind " + n, x.state(0, 0, n, 10), stands[n]);
        }
        // Patience begins anew in each reading.
        x = with("word 0;word 0;word 0;near 0 1;near 1 2;reader 2 1;wants 0 0 2;wants 0 1 2;wants 0 2 2;", 1,
            "read 0;read 0;read 0;");
        due.is("changes", x.state(0, 0, 3, 0), 5);
        due.is("stands", 100 * x.state(0, 0, 3, 10) + 10 * x.state(0, 0, 3, 11) + x.state(0, 0, 3, 12), 221);
        due.is("stands behind 2", 100 * x.state(0, 0, 2, 10) + 10 * x.state(0, 0, 2, 11) + x.state(0, 0, 2, 12), 220);
    }

    private static void words() {
        ProofLine x = with(A, "near 0 1;near 0 2;near 1 3;near 2 3;near 3 4;");
        due.at("promise 10");
        int[] steps = {0, 0, 0, 0, 1, 1, 0, 2, 2, 0, 3, 2, 5, 6, 1, 0, 5, -1, 7, 7, 0, 7, 8, -1, 10, 10, -1, -1, -1, -1,
            0, 10, -1, 0, -1, -1};
        for (int i = 0; i < steps.length; i += 3) {
            due.is("steps " + steps[i] + " " + steps[i + 1], x.steps(0, steps[i], steps[i + 1]), steps[i + 2]);
        }
        due.is("steps 0 4 of paper 1", x.steps(1, 0, 4), 3);
        due.at("promise 11");
        int[] towards = {0, 2, 1, 0, 3, 4, 1, 4, 0, 3, 1, 2, 3, 0, 4, 2, 4, 3, 5, 6, 6, 5, 7, -1, 2, 2, -1, 0, 10, -1,
            10, 0, -1, -1, 0, -1, 0, -1, -1};
        for (int i = 0; i < towards.length; i += 3) {
            due.is("towards " + towards[i] + " " + towards[i + 1],
                x.towards(0, towards[i], towards[i + 1]), towards[i + 2]);
        }
        due.is("a word behind the last", x.steps(0, 10, 0), -1);
        due.is("a word behind the last", x.towards(0, 10, 0), -1);
        due.is("the least of two", x.towards(1, 0, 3), 1);
        due.is("the least of two back", x.towards(1, 4, 0), 3);
        due.is("the least of two back", x.towards(1, 3, 0), 1);
        for (int odd : ODD) {
            due.is("steps from " + odd, x.steps(0, odd, 1), -1);
            due.is("steps to " + odd, x.steps(0, 1, odd), -1);
            due.is("towards from " + odd, x.towards(0, odd, 1), -1);
            due.is("towards " + odd, x.towards(0, 1, odd), -1);
        }
    }

    private static void readings() {
        due.at("promise 12");
        ProofLine x = with(A);
        int[] told = {0, 0, 1, 0, 1, 1, 0, 10, 1, 0, 11, 3, 0, 12, 5, 0, 13, -2, 0, 2, -2, 0, 9, -2,
            1, 0, 1, 1, 1, 2, 1, 10, 4, 1, 12, 5, 2, 0, 0, 2, 1, 1, 2, 10, 0, 3, 0, -2, -1, 0, -2};
        for (int i = 0; i < told.length; i += 3) {
            due.is("reading " + told[i] + " " + told[i + 1], x.reading(0, told[i], told[i + 1]), told[i + 2]);
        }
        // He changes as often as he has patience, from the first place on, and passes by what he can't reach.
        x = with("word 0;word 9;word 0;word 0;near 0 1;reader 2 1;wants 0 0 1;wants 0 1 0;wants 0 2 1;wants 0 3 1;");
        due.is("changes", x.reading(0, 0, 0), 2);
        due.is("content", x.reading(0, 0, 1), 2);
        int[] stands = {1, 9, 1, 0, -2};
        for (int i = 0; i < 5; i++) {
            due.is("stands " + i, x.reading(0, 0, 10 + i), stands[i]);
        }
        for (int odd : ODD) {
            due.is("what " + odd, x.reading(0, 0, odd), -2);
            due.is("reader " + odd, x.reading(0, odd, 0), -2);
        }
    }

    private static void roundsAre(String paper, int settled, int ring, int... last) {
        ProofLine x = with(paper);
        due.is("settled of " + paper, x.rounds(0, 0), settled);
        due.is("ring of " + paper, x.rounds(0, 1), ring);
        for (int i = 0; i < last.length; i++) {
            due.is("last " + i + " of " + paper, x.rounds(0, 10 + i), last[i]);
        }
        due.is("behind all places", x.rounds(0, 10 + last.length), -2);
        for (int odd : ODD) {
            due.is("what " + odd, x.rounds(0, odd), -2);
        }
        due.is("what 2", x.rounds(0, 2), -2);
    }

    private static void roundsOfAll() {
        due.at("promise 13");
        roundsAre(A, -1, 1, 0, 3, 5);
        roundsAre("", 0, -1);
        roundsAre("word 4;reader 1 1;", 0, -1, 4);
        roundsAre("word 0;near 0 1;near 1 2;near 2 3;reader 1 1;wants 0 0 3;", 3, -1, 3);
        // The one goes on, the other goes back: nothing stands, though it stands as at first.
        roundsAre("word 0;near 0 1;near 1 2;near 2 3;reader 1 1;reader 1 1;wants 0 0 3;wants 1 0 0;", -1, 1, 0);
        roundsAre("word 5;near 5 0;near 0 1;near 1 2;reader 1 1;reader 1 1;wants 0 0 2;wants 1 0 0;", -1, 1, 0);
        // In place 1 stand 0, then 3, 4, 5, 3: the ring does not come back to what was first.
        roundsAre("word 6;word 0;word 3;near 3 0;near 4 0;near 2 1;near 1 4;near 2 3;near 3 5;near 4 5;reader 3 1;"
            + "wants 0 0 2;wants 0 1 2;reader 3 1;wants 1 1 4;wants 1 2 3;reader 1 1;wants 2 0 4;wants 2 1 5;"
            + "wants 2 2 1;", -1, 3, 6, 3, 3);
        roundsAre("word 6;word 3;word 3;near 3 0;near 4 0;near 2 1;near 1 4;near 2 3;near 3 5;near 4 5;reader 3 1;"
            + "wants 0 0 2;wants 0 1 2;reader 3 1;wants 1 1 4;wants 1 2 3;reader 1 1;wants 2 0 4;wants 2 1 5;"
            + "wants 2 2 1;", -1, 3, 6, 3, 3);
        String far = "near 0 1;near 1 2;near 2 3;near 3 4;near 4 5;near 5 6;near 6 7;near 7 8;near 8 9;reader 1 1;";
        StringBuilder seven = new StringBuilder();
        for (int i = 0; i < 7; i++) {
            seven.append("word 0;wants 0 ").append(i).append(" 9;");
        }
        // 63 changes, one a round: 60 rounds are not enough.
        roundsAre(seven + far, -1, -1, 9, 9, 9, 9, 9, 9, 6);
        // 59 changes: the 60th round is the one in which nothing is changed.
        roundsAre(seven.toString().replaceFirst("word 0;", "word 4;") + far, 59, -1, 9, 9, 9, 9, 9, 9, 9);
        // 60 changes: none of 60 rounds is without.
        roundsAre(seven.toString().replaceFirst("word 0;", "word 3;") + far, -1, -1, 9, 9, 9, 9, 9, 9, 9);
    }

    private static void orders() {
        due.at("promise 14");
        ProofLine x = with(A, "word 0;near 0 1;near 1 2;reader 1 1;reader 1 1;reader 1 1;"
            + "wants 0 0 2;wants 1 0 2;wants 2 0 0;");
        due.is("how much", x.order(0, -1), 1);
        for (int k = 0; k < 3; k++) {
            due.is("the row by numbers " + k, x.order(0, k), k);
        }
        // Two want 2, two steps off; the third one, who would undo a step, best reads first.
        due.is("how much", x.order(1, -1), 2);
        due.is("first", x.order(1, 0), 2);
        due.is("second", x.order(1, 1), 0);
        due.is("third", x.order(1, 2), 1);
        due.is("fourth", x.order(1, 3), -1);
        due.is("-2", x.order(1, -2), -1);
        due.is("no paper", x.order(2, -1), -1);
        x = with("word 4;");
        due.is("no readers", x.order(0, -1), 0);
        due.is("no first", x.order(0, 0), -1);
    }

    private static void desksOfReaders() {
        due.at("promise 15");
        ProofLine x = with(A, "reader 0 3;reader 0 3;reader 0 2;reader 0 2;reader 0 2;");
        int[] calls = {0, 1, -1, 16, 0, 1, 0, 0, 0, 2, -1, 9, 0, 2, 0, 0, 0, 2, 1, 0, 0, 2, 2, 1, 0, 3, -1, 9, 0, 3, 1, 0,
            0, 3, 2, 1, 1, 2, -1, 6, 1, 2, 0, 0, 1, 2, 1, 0, 1, 2, 2, 1, 1, 2, 4, 1, 1, 3, -1, 5, 1, 3, 0, 0, 1, 3, 1, 1,
            1, 3, 2, 0, 1, 3, 3, 1, 1, 3, 4, 2, 1, 3, 5, -1, 1, 3, -2, -1, 1, 4, -1, -1, 1, 0, -1, -1};
        for (int i = 0; i < calls.length; i += 4) {
            due.is("desks " + calls[i] + " " + calls[i + 1] + " " + calls[i + 2],
                x.desks(calls[i], calls[i + 1], calls[i + 2]), calls[i + 3]);
        }
        due.is("without readers", with("").desks(0, 2, -1), 0);
        for (int odd : ODD) {
            due.is("n " + odd, x.desks(0, odd, 0), -1);
            due.is("k " + odd, x.desks(0, 1, odd), odd == -1 ? 16 : -1);
        }
    }

    private static void quarrels() {
        due.at("promise 16");
        // Who goes on to 2 passes by 1, which the other one wants.
        ProofLine x = with(A, "word 0;near 0 1;near 1 2;reader 0 1;reader 0 1;wants 0 0 2;wants 1 0 1;");
        int[] n = {0, 0, 1, 1, 2, 2, 3, 3, 4, 4};
        int[] want = {0, -1, 0, 8, -1, 0, 1, 0, -1, 0};
        for (int i = 0; i < n.length; i++) {
            due.is("quarrel of " + n[i] + (i % 2 == 1), x.quarrel(1, 0, 1, n[i], i % 2 == 1), want[i]);
        }
        due.is("A 0 1 0", x.quarrel(0, 0, 1, 0, false), 1);
        due.is("A 0 1 1", x.quarrel(0, 0, 1, 1, false), 1);
        due.is("A 0 1 1 first", x.quarrel(0, 0, 1, 1, true), 0);
        due.is("A 0 1 2", x.quarrel(0, 0, 1, 2, false), 0);
        due.is("A 1 0 1", x.quarrel(0, 1, 0, 1, false), 0);
        due.is("A 2 0 1", x.quarrel(0, 2, 0, 1, false), -1);
        due.is("A 2 0 1 first", x.quarrel(0, 2, 0, 1, true), 8);
        due.is("A 2 0 0 first", x.quarrel(0, 2, 0, 0, true), -1);
        int[] wrong = {0, 0, 1, 5, 0, 0, 1, -1, 0, 0, 0, 1, 0, 3, 0, 1, 0, 0, 3, 1, 0, -1, 0, 1, 2, 0, 1, 1, -1, 0, 1, 0};
        for (int i = 0; i < wrong.length; i += 4) {
            due.is("wrong " + i, x.quarrel(wrong[i], wrong[i + 1], wrong[i + 2], wrong[i + 3], false), -99);
            due.is("wrong first " + i, x.quarrel(wrong[i], wrong[i + 1], wrong[i + 2], wrong[i + 3], true), -99);
        }
        for (int odd : ODD) {
            due.is("n " + odd, x.quarrel(0, 0, 1, odd, false), -99);
            due.is("a " + odd, x.quarrel(0, odd, 1, 1, false), -99);
            due.is("b " + odd, x.quarrel(0, 0, odd, 1, false), -99);
        }
    }

    private static void signsAndVotes() {
        due.at("promise 17");
        ProofLine x = with(A, "word 0;word 0;word 0;" + "reader 1 1;".repeat(4)
            + "wants 1 1 4;wants 2 2 4;wants 3 1 4;wants 3 2 4;");
        due.is("how many", x.signs(0, false), 1);
        due.is("which", x.signs(0, true), 1);
        due.is("how many of two", x.signs(1, false), 2);
        due.is("which of two", x.signs(1, true), 6);
        due.is("no paper", x.signs(2, true), -1);
        x = with("word 0;reader 1 1;reader 1 1;wants 0 0 3;wants 1 0 3;", "word 0;reader 1 1;");
        due.is("alike", x.signs(0, false), -1);
        due.is("alike, which", x.signs(0, true), -1);
        due.is("one reader", x.signs(1, false), 0);
        due.is("one reader, which", x.signs(1, true), 0);
        x = with("word 0;word 0;word 0;" + "reader 1 1;".repeat(3)
            + "wants 0 0 1;wants 1 1 1;wants 0 2 5;wants 1 2 6;wants 2 2 7;");
        due.is("one place, not two of a lesser number", x.signs(0, true), 4);
        due.is("one place, how many", x.signs(0, false), 1);
        x = with("reader 1 1;reader 1 1;", "");
        due.is("no places to tell by", x.signs(0, false), -1);
        due.is("nobody", x.signs(1, false), 0);
        due.at("promise 18");
        x = with(A, "word 0;reader 1 1;reader 1 1;reader 1 1;wants 0 0 1;wants 1 0 7;wants 2 0 7;");
        int[] votes = {2, 3, 6, -1};
        for (int i = 0; i < 4; i++) {
            due.is("vote " + i, x.vote(0, i), votes[i]);
        }
        due.is("most", x.vote(1, 0), 7);
        due.is("nobody", with("word 0;reader 1 1;").vote(0, 0), -1);
        due.is("no paper", x.vote(2, 0), -1);
        for (int odd : ODD) {
            due.is("vote " + odd, x.vote(0, odd), -1);
            due.is("vote of " + odd, x.vote(odd, 0), -1);
        }
    }

    private static void comes() {
        due.at("promise 19");
        ProofLine x = with(A, "");
        long[][] calls = {{5, 1, 1, 8}, {10, 1, 1, 1}, {0, 1, 0, 1}, {5, 2, 27, 64}, {1, 3, 19902511L, 1000000000L},
            {5, 0, 0, 1}, {10, 0, 0, 1}, {2, 1, 1, 125}, {-1, 1, -1, -1}, {11, 1, -1, -1}, {5, 4, -1, -1}, {5, -1, -1, -1}};
        for (long[] c : calls) {
            due.is("come " + c[0] + " " + c[1], x.come(0, (int) c[0], (int) c[1], false), c[2]);
            due.is("come under " + c[0] + " " + c[1], x.come(0, (int) c[0], (int) c[1], true), c[3]);
            if (c[2] >= 0) {
                due.is("nobody " + c[0] + " " + c[1], x.come(1, (int) c[0], (int) c[1], false), 1);
                due.is("nobody under " + c[0] + " " + c[1], x.come(1, (int) c[0], (int) c[1], true), 1);
            }
        }
        x = with("reader 1 1;".repeat(6));
        due.is("six", x.come(0, 1, 3, false), 396109944105121L);
        due.is("six under", x.come(0, 1, 3, true), 1000000000000000000L);
        for (int odd : ODD) {
            due.is("p " + odd, x.come(0, odd, 1, true), -1);
            due.is("n " + odd, x.come(0, 5, odd, true), -1);
            due.is("paper " + odd, x.come(odd, 5, 1, true), -1);
        }
    }

    private static void logs() {
        ProofLine x = with(A, 2, "was 0 0;");
        due.at("promise 21");
        int[] fits = {0, 3, 1, 0, 2, -1, 3, -1, 4, -1, 5, -1, 7, -1, 8, -2, 9, -2, 10, 1012, 11, 1021, 12, 1201, 13, -2,
            -1, -2, 730, -2};
        for (int i = 0; i < fits.length; i += 2) {
            due.is("fits " + fits[i], x.fits(0, 0, fits[i]), fits[i + 1]);
        }
        due.at("promise 22");
        int[] ahead = {3, 0, -1, -1, 0, 1, 1, 1, 1, 0, 0, 1, 0, 2, 2, 3, 2, 0, 1, 3, 2, 1, 2, 3, 0, 0, -1, -1, 0, 3, -1, -1, -1, 0, -1, -1};
        for (int i = 0; i < ahead.length; i += 4) {
            due.is("ahead " + ahead[i] + ahead[i + 1], x.ahead(0, 0, ahead[i], ahead[i + 1], false), ahead[i + 2]);
            due.is("ahead under " + ahead[i] + ahead[i + 1], x.ahead(0, 0, ahead[i], ahead[i + 1], true), ahead[i + 3]);
        }
        due.at("promise 31");
        int[] firsts = {5, 6, 1, 1, -2};
        for (int what = 0; what < 5; what++) {
            due.is("firsts " + what, x.firsts(0, 0, what), firsts[what]);
        }
        nothingFits(x, "was 7 0;");
        nothingFits(x, "was 3 0;");
        nothingFits(x, "was 0 0;was 0 3;");
        nothingFits(x, "was 1 9;");
        Due.text(x, 2, 0, "was 0 3;");
        due.at("promise 21");
        due.is("the other three", x.fits(0, 0, 10), 1102);
        Due.text(x, 2, 0, "");
        due.is("all", x.fits(0, 0, 0), 6);
        due.is("ask: 0 or 3 at place 0", x.fits(0, 0, 1), 0);
        due.is("the last", x.fits(0, 0, 15), 1210);
        sureAndAsk();
    }

    private static void sureAndAsk() {
        // At place 1 the words differ by who reads last; at place 0 nothing ever changes.
        String two = "word 5;word 0;near 0 1;near 0 2;near 1 2;reader 1 1;reader 1 1;wants 0 1 1;wants 1 1 2;";
        ProofLine x = with(two, 2, "was 1 2;");
        due.is("one fits", x.fits(0, 0, 0), 1);
        due.is("sure of the first", x.fits(0, 0, 2), 0);
        due.is("sure of the last", x.fits(0, 0, 3), 1);
        due.is("not so many", x.fits(0, 0, 4), -1);
        Due.text(x, 2, 0, "was 0 5;");
        due.is("two fit", x.fits(0, 0, 0), 2);
        due.is("not sure", x.fits(0, 0, 2), -1);
        due.is("ask", x.fits(0, 0, 1), 1);
        due.is("the lead", x.ahead(0, 0, 0, 1, false) * 10 + x.ahead(0, 0, 0, 1, true), 12);
        due.at("promise 31");
        x = with("word 0;near 0 1;near 1 2;reader 1 1;reader 1 1;reader 1 1;wants 0 0 2;wants 1 0 2;wants 2 0 0;", 2, "");
        due.is("best", x.firsts(0, 0, 2), 2);
        due.is("worst", x.firsts(0, 0, 3), 0);
        x = with("word 3;", 2, "was 0 3;");
        due.at("promise 21");
        due.is("nobody's row fits", x.fits(0, 0, 0), 1);
        due.is("its number", x.fits(0, 0, 10), 1);
        due.is("ask", x.fits(0, 0, 1), 0);
        due.at("promise 31");
        due.is("firsts", x.firsts(0, 0, 0), 0);
        due.is("lasts", x.firsts(0, 0, 1), 0);
        due.is("best", x.firsts(0, 0, 2), 0);
        x = with("word 0;" + "reader 0 1;".repeat(6), 2, "was 0 0;");
        due.at("promise 21");
        due.is("rows of six", x.fits(0, 0, 0), 720);
        due.is("the first", x.fits(0, 0, 10), 1012345);
        due.is("the second", x.fits(0, 0, 11), 1012354);
        due.is("the last", x.fits(0, 0, 729), 1543210);
        due.is("behind the last", x.fits(0, 0, 730), -2);
        due.is("ask", x.fits(0, 0, 1), 0);
        due.is("sure of the sixth", x.fits(0, 0, 7), -1);
        due.is("ahead", 10 * x.ahead(0, 0, 5, 0, false) + x.ahead(0, 0, 5, 0, true), 12);
        due.is("firsts and lasts", x.firsts(0, 0, 0) + x.firsts(0, 0, 1), 126);
        due.is("order", x.order(0, 5), 5);
        x = with("reader 1 1;", 2, "");
        due.is("no places to ask", x.fits(0, 0, 1), -1);
        for (int odd : ODD) {
            due.is("fits " + odd, x.fits(0, 0, odd), -2);
            due.is("fits of log " + odd, x.fits(0, odd, 0), -2);
            due.is("fits of paper " + odd, x.fits(odd, 0, 0), -2);
            due.is("ahead of " + odd, x.ahead(0, 0, 0, odd, false), -1);
            due.is("firsts " + odd, x.firsts(0, 0, odd), -2);
            due.is("firsts of log " + odd, x.firsts(0, odd, 0), -2);
        }
    }

    private static void nothingFits(ProofLine x, String log) {
        Due.text(x, 2, 0, log);
        due.at("promises 21, 22, 31, nothing fits: " + log);
        int[] fits = {0, -1, -1, -1, -1, -1, -1, -1, -2, -2, -2};
        for (int what = 0; what < fits.length; what++) {
            due.is("fits " + what, x.fits(0, 0, what), fits[what]);
        }
        due.is("ahead", x.ahead(0, 0, 0, 1, false), -1);
        due.is("ahead under", x.ahead(0, 0, 0, 1, true), -1);
        int[] firsts = {0, 0, -1, -1, -2};
        for (int what = 0; what < firsts.length; what++) {
            due.is("firsts " + what, x.firsts(0, 0, what), firsts[what]);
        }
    }

    private static void draws() {
        due.at("promise 23");
        ProofLine x = with(A, "word 0;word 3;word 5;" + NETS);
        int[] behind = {0, 5, 1, 1, 10, 2, 11, 3, 12, 5, 13, -2, 20, 4, 21, 3, 22, 5, 30, 2, 31, 0, 32, 0, 33, -2, 40, 0,
            41, 2, 42, 4, 50, 18, 51, 1, 52, 8, 60, -2, 2, -2, -1, -2};
        for (int i = 0; i < behind.length; i += 2) {
            due.is("drawn 12 " + behind[i], x.drawn(0, -5, 12, behind[i]), behind[i + 1]);
        }
        due.is("drawn 4 changes", x.drawn(0, -5, 4, 0), 1);
        due.is("drawn 0", x.drawn(0, -5, 0, 10), 0);
        due.is("drawn 60 may be", x.drawn(0, -5, 60, 1) >= 1, true);
        due.is("drawn 61", x.drawn(0, -5, 61, 0), -2);
        due.is("drawn -1", x.drawn(0, -5, -1, 0), -2);
        due.is("no paper", x.drawn(2, -5, 1, 0), -2);
        // Without readers: print, join 6 9, part 1 2, set 2 4, set 1 2, set 2 5.
        int[] nobody = {0, 0, 1, 1, 10, 0, 11, 2, 12, 5, 20, 0, 21, 3, 22, 5, 51, 1, 52, 8, 56, 544, 59, 64};
        for (int i = 0; i < nobody.length; i += 2) {
            due.is("nobody " + nobody[i], x.drawn(1, -5, 12, nobody[i]), nobody[i + 1]);
        }
        x = with("reader 1 1;reader 1 1;reader 1 1;", "near 1 2;");
        due.is("no places", x.drawn(0, -5, 12, 1), 1);
        due.is("nothing at all: prints", x.drawn(1, -5, 12, 1), 1);
        due.is("nothing at all: joined", x.drawn(1, -5, 12, 56), 512);
        due.is("nothing at all: parted", x.drawn(1, -5, 12, 51), 0);
        // WORDS NEAR behind 40 draws, worked out apart: without readers, without places, without both.
        x = with("word 0;word 0;", "reader 0 1;reader 0 1;");
        int[] near = {96, 8, 0, 2, 0, 1, 129, 64, 0, 0, 98, 41, 0, 2, 0, 3, 1, 0, 0, 0};
        for (int w = 0; w < 10; w++) {
            due.is("without readers near " + w, x.drawn(0, 99, 40, 50 + w), near[w]);
            due.is("without places near " + w, x.drawn(1, 99, 40, 50 + w), near[10 + w]);
        }
        due.is("without readers prints", x.drawn(0, 99, 40, 1), 2);
        due.is("without places prints", x.drawn(1, 99, 40, 1), 4);
        due.is("without readers stands", 10 * x.drawn(0, 99, 40, 10) + x.drawn(0, 99, 40, 11), 40);
        x = with("", "reader 0 1;reader 0 1;");
        int[] neither = {2, 9, 0, 2, 0, 0, 128, 64, 0, 0};
        for (int w = 0; w < 10; w++) {
            due.is("without both near " + w, x.drawn(0, 99, 40, 50 + w), neither[w]);
        }
        due.is("without both prints", x.drawn(0, 99, 40, 1), 3);
        for (int odd : ODD) {
            due.is("n " + odd, x.drawn(0, 1, odd, 0), -2);
            due.is("what " + odd, x.drawn(0, 1, 1, odd), -2);
        }
    }

    private static void kinOfWords() {
        due.at("promise 24");
        ProofLine x = with(A, "");
        int[] ring = {5, 5, 2, 896, 1, 5, -2};
        int[] none = {10, 1, 0, 1023, 0, -1, -2};
        for (int what = 0; what < 7; what++) {
            due.is("kin " + what, x.kin(0, what), ring[what]);
            due.is("kin of none " + what, x.kin(1, what), none[what]);
        }
        x = with("near 0 1;near 1 2;near 2 3;near 3 0;near 3 4;near 4 5;near 5 6;near 6 4;", "near 0 1;near 8 9;near 1 2;");
        int[] two = {4, 7, 4, 896, 1, 3};
        int[] chains = {7, 3, 2, 248, 3, -1};
        for (int what = 0; what < 6; what++) {
            due.is("kin of two rings " + what, x.kin(0, what), two[what]);
            due.is("kin of chains " + what, x.kin(1, what), chains[what]);
        }
        x = with("near 0 1;near 1 2;near 2 0;near 5 6;near 6 7;near 7 8;near 8 5;");
        due.is("the lesser circle is met first", x.kin(0, 5), 3);
        for (int odd : ODD) {
            due.is("what " + odd, x.kin(0, odd), -2);
            due.is("paper " + odd, x.kin(odd, 1), -2);
        }
    }

    private static void readersApart() {
        due.at("promise 25");
        ProofLine x = with(A);
        int[][] told = {{2, 2, 2, -2}, {2, 2, 5, -2}, {0, 0, 2, -2}, {-2, -2, -2, -2}};
        for (int r = 0; r < 4; r++) {
            for (int what = 0; what < 4; what++) {
                due.is("distance " + r + " " + what, x.distance(0, r, what), told[r][what]);
            }
        }
        for (int odd : ODD) {
            due.is("reader " + odd, x.distance(0, odd, 0), -2);
            due.is("what " + odd, x.distance(0, 0, odd), -2);
        }
        due.at("promise 26");
        due.is("peace", x.peace(0, false), 2);
        due.is("peace of", x.peace(0, true), 5);
        due.is("no paper", x.peace(1, true), -1);
        due.is("nobody", with("").peace(0, false), 0);
        due.is("nobody, which", with("").peace(0, true), 0);
        due.is("the first has two rivals", with("word 0;reader 1 1;reader 1 1;reader 1 1;wants 0 0 1;wants 1 0 2;"
            + "wants 2 0 2;").peace(0, true), 6);
        due.is("the least of two", with("word 0;reader 1 1;reader 1 1;wants 0 0 1;wants 1 0 2;").peace(0, true), 1);
        due.at("promise 27");
        int[] medians = {2, 2, 3, 0, 6, 10, -1, -1};
        for (int i = 0; i < 4; i++) {
            due.is("median " + i, x.median(0, i, false), medians[2 * i]);
            due.is("median much " + i, x.median(0, i, true), medians[2 * i + 1]);
        }
        ProofLine y = with("word 5;reader 1 1;", "word 0;near 3 8;reader 1 1;reader 1 1;reader 1 1;"
            + "wants 0 0 3;wants 1 0 8;wants 2 0 8;");
        due.is("nobody wants", y.median(0, 0, false), 0);
        due.is("nobody wants, much", y.median(0, 0, true), 0);
        due.is("two of three", y.median(1, 0, false), 8);
        due.is("two of three, much", y.median(1, 0, true), 1);
        for (int odd : ODD) {
            due.is("median " + odd, x.median(0, odd, true), -1);
            due.is("median of " + odd, x.median(odd, 0, false), -1);
        }
    }

    private static void risesAre(String proof, int... told) {
        StringBuilder text = new StringBuilder();
        for (int i = 0; i < proof.length(); i++) {
            text.append("word ").append(proof.charAt(i)).append(";");
        }
        ProofLine x = with(text.toString());
        int[] whats = {0, 1, 2, 3, 4};
        for (int i = 0; i < told.length; i++) {
            int what = i < 5 ? whats[i] : 5 + i;
            due.is("rise of " + proof + ", " + what, x.rise(0, what), told[i]);
        }
        due.is("rise of " + proof + ", behind", x.rise(0, 5 + told.length), -2);
        for (int odd : ODD) {
            due.is("rise " + odd, x.rise(0, odd), -2);
        }
        due.is("rise 5", x.rise(0, 5), -2);
        due.is("rise 9", x.rise(0, 9), -2);
    }

    private static void rises() {
        due.at("promise 28");
        risesAre("", 0, 0, 0, 0, -1);
        risesAre("7", 1, 0, 0, 1, 7, 0);
        risesAre("035", 3, 1, 0, 3, 0, 0, 1, 2);
        risesAre("1111", 1, 0, 3, 1, 1, 0);
        risesAre("5126", 3, 2, 0, 4, 1, 1, 2, 3);
        risesAre("31425364", 4, 4, 1, 6, 3, 0, 2, 4, 6);
        risesAre("98789878", 3, 4, 4, 3, 8, 2, 3, 4);
        risesAre("12312312", 3, 3, 5, 3, 1, 0, 1, 2);
        risesAre("90909090", 2, 4, 6, 2, 0, 1, 2);
    }

    private static void lastWords() {
        due.at("promise 29");
        ProofLine x = with(A);
        int[] told = {0, 4, 1, 0, 2, 1, 3, 1, 4, 1, 5, 14, 6, 2, 7, -2, 9, -2, 10, 1, 11, -1, 12, -1, 13, -2, -1, -2};
        for (int i = 0; i < told.length; i += 2) {
            due.is("lastWord " + told[i], x.lastWord(0, told[i]), told[i + 1]);
        }
        x = with("word 0;", "word 0;near 0 1;near 0 2;near 1 2;reader 1 1;reader 1 1;reader 1 1;"
            + "wants 0 0 1;wants 1 0 2;wants 2 0 1;");
        int[] nobody = {0, -1, 0, -1, 0, 1, 0};
        // Each last reader has his way: two want 1; by numbers the third one has it, and so has he who changes places.
        int[] three = {0, 0, 2, 1, 2, 3, 2};
        for (int what = 0; what < 7; what++) {
            due.is("nobody " + what, x.lastWord(0, what), nobody[what]);
            due.is("three " + what, x.lastWord(1, what), three[what]);
        }
        due.is("blame", x.lastWord(1, 10), 2);
        x = with("word 0;near 0 1;near 0 2;near 1 2;reader 1 1;reader 1 1;reader 1 1;"
            + "wants 0 0 2;wants 1 0 1;wants 2 0 1;", "reader 1 1;");
        due.is("last of all", x.lastWord(0, 1), 1);
        due.is("blame of the first", with("word 0;near 0 1;reader 1 1;wants 0 0 1;reader 1 1;").lastWord(0, 10), 0);
        due.is("the second and the third", x.lastWord(0, 3), 1);
        due.is("fewer than two", x.lastWord(1, 3), -1);
        due.is("fewer than two, much", x.lastWord(1, 4), 0);
        // Who wants 1 must be the last of three who go; a fourth one has no patience, but wants 1, too.
        x = with("word 0;near 0 1;near 0 2;near 1 2;reader 1 1;reader 1 1;reader 1 1;reader 0 1;"
            + "wants 0 0 2;wants 1 0 1;wants 2 0 0;wants 3 0 1;", "word 0;reader 1 1;reader 1 1;");
        due.is("the second for the third", x.lastWord(0, 3), 12);
        due.is("the second for the third, much", x.lastWord(0, 4), 2);
        int[] nothing = {3, 0, 0, 1, 0, 1, 0};
        for (int what = 0; what < 7; what++) {
            due.is("nothing wanted " + what, x.lastWord(1, what), nothing[what]);
        }
        StringBuilder all = new StringBuilder("reader 1 1;word 0;wants 0 0 0;");
        for (int a = 0; a < 10; a++) {
            for (int b = a + 1; b < 10; b++) {
                all.append("near").append(a).append(" ").append(b).append(";");
            }
        }
        x = with(all.toString());
        due.is("all are near", x.lastWord(0, 5), -1);
        due.is("all are near, much", x.lastWord(0, 6), 0);
        for (int odd : ODD) {
            due.is("what " + odd, x.lastWord(0, odd), -2);
            due.is("paper " + odd, x.lastWord(odd, 0), -2);
        }
    }

    private static void images() {
        ProofLine x = with(A, 1, WEEK);
        Due.text(x, 2, -1, "was 0 0;");
        Due.text(x, 0, -1, "word;");
        Due.tape(x, "word 8;");
        due.at("promise 33");
        for (int odd : ODD) {
            due.is("image " + odd, x.image(odd), false);
            due.is("again " + odd, x.again(odd), false);
        }
        due.is("image 3", x.image(3), false);
        due.is("again 1", x.again(1), false);
        due.is("image 1", x.image(1), true);
        due.is("again 0", x.again(0), false);
        due.is("order", x.order(0, -1), 1);
        x.feed(0, 0, 0, 0, 0);
        due.is("a text", Due.text(x, 0, 0, "word 2;reader 1 1;wants 0 0 2;"), -1);
        x.end(0);
        due.is("a text", Due.text(x, 0, 0, "word 2;reader 1 1;wants 0 0 2;"), 0);
        Due.text(x, 1, 0, "print;");
        Due.text(x, 1, -1, "print;");
        Due.text(x, 2, 0, "");
        due.is("image 2", x.image(2), true);
        due.is("order now", x.order(0, -1), 1);
        due.at("promise 34");
        due.is("again 1", x.again(1), true);
        due.is("fault", x.fault(0), 1);
        due.is("its place", x.fault(1), 4);
        due.is("the tape", x.end(8), -1);
        due.is("places", x.paper(0, 0), 3);
        due.is("weeks", x.count(1), 1);
        due.is("deeds", x.deed(0, -1, 0), 13);
        due.is("facts", x.fact(0, -1, 0), 1);
        due.is("fits", x.fits(0, 0, 0), 3);
        due.is("the tape", x.text(0, -1), 1);
        due.is("its word", x.paper(1, 10), 8);
        due.is("again 2", x.again(2), true);
        due.is("places", x.paper(0, 0), 1);
        due.is("fault", x.fault(0), 0);
        due.is("weeks", x.count(1), 2);
        due.is("deeds", x.deed(0, -1, 0), 1);
        due.is("papers", x.count(0), 1);
        due.is("fits", x.fits(0, 0, 0), 1);
        due.is("image 1 anew", x.image(1), true);
        due.is("again 1", x.again(1), true);
        due.is("places", x.paper(0, 0), 1);
        due.is("again 2", x.again(2), true);
        due.is("again 0", x.again(0), false);
        due.is("image 0", x.image(0), true);
        Due.text(x, 0, 0, "");
        due.is("no places", x.paper(0, 0), 0);
        due.is("again 0", x.again(0), true);
        due.is("places", x.paper(0, 0), 1);
        due.is("again 3", x.again(3), false);
    }

    /** Calls of an object with no papers, weeks, logs; and with papers, but without weeks and logs. */
    private static void nothingThere() {
        due.at("nothing there");
        ProofLine x = new ProofLine();
        for (int i = -1; i < 2; i++) {
            due.is("paper", x.paper(i, 0), -1);
            due.is("deed", x.deed(i, -1, 0), -2);
            due.is("stop", x.stop(i, i), -1);
            due.is("state", x.state(i, i, 0, 0), -2);
            due.is("steps", x.steps(i, 0, 0), -1);
            due.is("towards", x.towards(i, 0, 1), -1);
            due.is("reading", x.reading(i, 0, 0), -2);
            due.is("rounds", x.rounds(i, 0), -2);
            due.is("order", x.order(i, -1), -1);
            due.is("desks", x.desks(i, 1, -1), -1);
            due.is("quarrel", x.quarrel(i, 0, 1, 1, false), -99);
            due.is("signs", x.signs(i, false), -1);
            due.is("vote", x.vote(i, 0), -1);
            due.is("come", x.come(i, 5, 1, true), -1);
            due.is("fact", x.fact(i, -1, 0), -2);
            due.is("fits", x.fits(i, i, 0), -2);
            due.is("ahead", x.ahead(i, i, 0, 1, true), -1);
            due.is("drawn", x.drawn(i, 0, 0, 0), -2);
            due.is("kin", x.kin(i, 0), -2);
            due.is("distance", x.distance(i, 0, 0), -2);
            due.is("peace", x.peace(i, true), -1);
            due.is("median", x.median(i, 0, true), -1);
            due.is("rise", x.rise(i, 0), -2);
            due.is("lastWord", x.lastWord(i, 0), -2);
            due.is("after", x.after(i, i, 0), -2);
            due.is("firsts", x.firsts(i, i, 0), -2);
        }
        x = with(A);
        due.is("stop without weeks", x.stop(0, 0), -1);
        due.is("state without weeks", x.state(0, 0, 0, 0), -2);
        due.is("after without weeks", x.after(0, 0, 0), -2);
        due.is("fits without logs", x.fits(0, 0, 0), -2);
        due.is("ahead without logs", x.ahead(0, 0, 0, 1, false), -1);
        due.is("firsts without logs", x.firsts(0, 0, 0), -2);
        x = new ProofLine();
        Due.text(x, 1, -1, "print;");
        Due.text(x, 2, -1, "");
        due.is("stop without papers", x.stop(0, 0), -1);
        due.is("state without papers", x.state(0, 0, 0, 0), -2);
        due.is("after without papers", x.after(0, 0, 0), -2);
        due.is("fits without papers", x.fits(0, 0, 0), -2);
        due.is("firsts without papers", x.firsts(0, 0, 0), -2);
    }
}
