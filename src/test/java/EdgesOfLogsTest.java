/** Boundary cases of logs and of weeks by a seed: term 4, and promises 21 to 23, 31. */
final class EdgesOfLogsTest {
    private static final Due due = new Due();
    private static final int NONE = Edges.NONE;
    private static final String LINE = Edges.chains("0123456789");
    /** Three WORDS, each NEAR the two others: who READS has his way at once. */
    private static final String THREE = Edges.chains("0120");
    /** What stands at PLACE 1 in the end is what the last READER wants there; at PLACE 0 nothing changes. */
    private static final String TWO = Edges.proof("50") + THREE + Edges.readers(1, "-1", "-2");

    public static void main(String[] args) throws Exception {
        Edges.run(EdgesOfLogsTest.class, due);
    }

    /** How many FIT, and the numbers of all that do. */
    private static void fit(String paper, String log, int... numbers) {
        ProofLine x = Edges.logs(paper, log);
        due.is("how many FIT " + log + " of " + paper, x.fits(0, 0, 0), numbers.length);
        for (int k = 0; k < numbers.length; k++) {
            due.is("the " + k + "th that FITS " + log, x.fits(0, 0, 10 + k), numbers[k]);
        }
        due.is("not so many FIT " + log, x.fits(0, 0, 10 + numbers.length), -2);
    }

    // ---- term 4: what FITS ----

    static void term4_each_fact_is_to_stand_then() {
        fit(TWO, "was 1 2;", 101);
        fit(TWO, "was 1 1;", 110);
        fit(TWO, "was 1 0;");
        fit(TWO, "was 0 5;", 101, 110);
        fit(TWO, "was 0 5;was 1 2;", 101);
        fit(TWO, "was 1 2;was 0 4;");
        fit(TWO, "was 1 2;was 1 1;");
        fit(TWO, "was 1 2;was 1 2;", 101);
    }

    static void term4_all_fit_without_facts() {
        fit(TWO, "", 101, 110);
        fit("", "", 1);
        fit("reader 1 1;", "", 10);
        fit("reader 1 1;reader 1 1;reader 1 1;", "", 1012, 1021, 1102, 1120, 1201, 1210);
    }

    static void term4_of_a_place_that_is_not_there_never() {
        fit(TWO, "was 2 0;");
        fit(TWO, "was 7 0;");
        fit("", "was 0 0;");
        fit(Edges.proof("0000000") + "reader 1 1;", "was 6 0;", 10);
        fit(Edges.proof("0000000") + "reader 1 1;", "was 7 0;");
        fit(Edges.proof("00000000") + "reader 1 1;", "was 7 0;", 10);
    }

    static void term4_without_readers_the_proof_as_told_fits_or_not() {
        fit("word 3;", "was 0 3;", 1);
        fit("word 3;", "was 0 4;");
    }

    static void term4_the_numbers_of_six_readers() {
        ProofLine x = Edges.logs("reader 1 1;".repeat(6), "");
        due.is("all", x.fits(0, 0, 0), 720);
        due.is("the first", x.fits(0, 0, 10), 1012345);
        due.is("the second", x.fits(0, 0, 11), 1012354);
        due.is("the 121st", x.fits(0, 0, 130), 1102345);
        due.is("the last", x.fits(0, 0, 729), 1543210);
        due.is("behind the last", x.fits(0, 0, 730), -2);
    }

    static void term4_fits_is_by_the_log_and_the_paper_that_are_asked() {
        ProofLine x = Edges.logs(TWO, "was 1 2;", "was 1 1;");
        Due.text(x, 0, NONE, "");
        due.is("log 0", x.fits(0, 0, 10), 101);
        due.is("log 1", x.fits(0, 1, 10), 110);
        due.is("log 0 of another", x.fits(1, 0, 0), 0);
        due.is("log 0 again", x.fits(0, 0, 10), 101);
        Due.text(x, 2, 0, "");
        due.is("log 0 anew", x.fits(0, 0, 0), 2);
        Due.text(x, 0, 0, "");
        due.is("paper 0 anew", x.fits(0, 0, 0), 1);
    }

    // ---- term 4: SURE, ASK ----

    static void term4_sure_is_the_reader_who_is_there_in_all_that_fit() {
        ProofLine x = Edges.logs(TWO, "was 1 2;", "");
        due.is("the first", x.fits(0, 0, 2), 0);
        due.is("the last", x.fits(0, 0, 3), 1);
        due.is("not sure of the first", x.fits(0, 1, 2), NONE);
        due.is("not sure of the last", x.fits(0, 1, 3), NONE);
        // 2 READS behind 0 and 3 in all that FIT, but 1 may be anywhere, behind him, too.
        x = Edges.logs(Edges.proof("0") + THREE + Edges.readers(1, "1", "-", "2", "1"), "was 0 2;");
        due.is("a third of 24", x.fits(0, 0, 0), 8);
        due.is("not sure of the last", x.fits(0, 0, 5), NONE);
        // 2 READS last in all that FIT; ahead of him 0 and 1 as they like.
        x = Edges.logs(Edges.proof("00") + THREE + Edges.readers(2, "1-", "11", "22"), "was 0 2;was 1 2;");
        due.is("two", x.fits(0, 0, 0), 2);
        due.is("2 is sure to be last", x.fits(0, 0, 4), 2);
        due.is("nobody is sure of the first", x.fits(0, 0, 2), NONE);
        due.is("nor of the second", x.fits(0, 0, 3), NONE);
    }

    static void term4_sure_none_of_a_place_in_the_row_that_is_not_there() {
        ProofLine x = Edges.logs("reader 1 1;", "");
        due.is("the first", x.fits(0, 0, 2), 0);
        for (int i = 1; i <= 5; i++) {
            due.is("place " + i, x.fits(0, 0, 2 + i), NONE);
        }
        x = Edges.logs("", "");
        for (int i = 0; i <= 5; i++) {
            due.is("place " + i + " of no READERS", x.fits(0, 0, 2 + i), NONE);
        }
    }

    static void term4_sure_of_the_sixth() {
        // Who READS last has his way: 5 alone wants 2.
        String six = Edges.proof("0") + THREE + Edges.readers(1, "1", "1", "1", "1", "1", "2");
        ProofLine x = Edges.logs(six, "was 0 2;");
        due.is("how many", x.fits(0, 0, 0), 120);
        due.is("5 is last", x.fits(0, 0, 7), 5);
        due.is("nobody is sure of the fifth", x.fits(0, 0, 6), NONE);
        due.is("lasts", x.firsts(0, 0, 1), 32);
        due.is("firsts", x.firsts(0, 0, 0), 31);
    }

    static void term4_ask_is_the_place_where_the_greatest_number_alike_is_least() {
        due.is("PLACE 1 tells them apart", Edges.logs(TWO, "").fits(0, 0, 1), 1);
        due.is("of one that FITS the least", Edges.logs(TWO, "was 1 2;").fits(0, 0, 1), 0);
        // At PLACE 0 2 wants nothing: 3 and 3 alike; at PLACE 1 each READER has his own: 2, 2, 2.
        String three = Edges.proof("000") + Edges.chains("0123", "0213", "03") + Edges.readers(9, "111", "222", "-3-");
        due.is("PLACE 1", Edges.logs(three, "").fits(0, 0, 1), 1);
    }

    static void term4_ask_where_all_720_are_alike() {
        due.is("the least", Edges.logs(Edges.proof("30") + "reader 1 1;".repeat(6), "").fits(0, 0, 1), 0);
        due.is("the second of two", Edges.logs(Edges.proof("30") + THREE
            + Edges.readers(1, "--", "--", "--", "--", "-1", "-2"), "").fits(0, 0, 1), 1);
    }

    static void term4_fits_and_sure_of_the_one_row_of_six() {
        // At PLACE p it is p who READ behind p + 1.
        String six = Edges.proof("00000") + THREE + Edges.readers(9, "1----", "21---", "-21--", "--21-", "---21", "----2");
        ProofLine x = Edges.logs(six, "was 0 1;was 1 1;was 2 1;was 3 1;was 4 1;");
        due.is("one", x.fits(0, 0, 0), 1);
        due.is("its number", x.fits(0, 0, 10), 1543210);
        for (int i = 0; i <= 5; i++) {
            due.is("SURE of " + i, x.fits(0, 0, 2 + i), 5 - i);
        }
        due.is("FIRSTS", x.firsts(0, 0, 0), 32);
        due.is("LASTS", x.firsts(0, 0, 1), 1);
        due.is("5 is AHEAD of 0", x.ahead(0, 0, 5, 0, false), 1);
        due.is("0 is not AHEAD of 1", x.ahead(0, 0, 0, 1, false), 0);
    }

    static void term4_ask_of_several_the_least() {
        due.is("all alike", Edges.logs(Edges.proof("345") + "reader 1 1;", "").fits(0, 0, 1), 0);
        due.is("1 and 2", Edges.logs(Edges.proof("500") + THREE + Edges.readers(2, "-11", "-22"), "").fits(0, 0, 1), 1);
        due.is("no READERS", Edges.logs(Edges.proof("345"), "").fits(0, 0, 1), 0);
    }

    static void term4_ask_none_where_nothing_fits_or_without_places() {
        due.is("nothing FITS", Edges.logs(TWO, "was 1 0;").fits(0, 0, 1), NONE);
        due.is("no PLACES", Edges.logs("reader 1 1;", "").fits(0, 0, 1), NONE);
        due.is("nothing at all", Edges.logs("", "").fits(0, 0, 1), NONE);
    }

    static void promise21_sure_none_where_nothing_fits() {
        ProofLine x = Edges.logs(TWO, "was 1 0;");
        for (int i = 0; i <= 5; i++) {
            due.is("place " + i, x.fits(0, 0, 2 + i), NONE);
        }
        due.is("none", x.fits(0, 0, 0), 0);
        due.is("no first", x.fits(0, 0, 10), -2);
    }

    static void promise21_minus_2_where_there_is_none_such_or_for_another_what() {
        ProofLine x = Edges.logs(TWO, "");
        for (int what = -5; what < 40; what++) {
            boolean there = what >= 0 && what <= 7 || what == 10 || what == 11;
            due.is("what " + what, x.fits(0, 0, what) != -2, there);
        }
        for (int odd : Edges.ODD) {
            due.is("what " + odd, x.fits(0, 0, odd), -2);
            due.is("paper " + odd, x.fits(odd, 0, 0), -2);
            due.is("log " + odd, x.fits(0, odd, 0), -2);
        }
        for (int odd : new int[] {1, 2, -1}) {
            due.is("paper " + odd, x.fits(odd, 0, 0), -2);
            due.is("log " + odd, x.fits(0, odd, 0), -2);
            due.is("SURE, paper " + odd, x.fits(odd, 0, 2), -2);
            due.is("ASK, log " + odd, x.fits(0, odd, 1), -2);
        }
    }

    // ---- term 4: AHEAD ----

    private static void ahead(String paper, String log, int a, int b, int over, int under) {
        ProofLine x = Edges.logs(paper, log);
        due.is("N of " + a + " ahead of " + b + ", " + log, x.ahead(0, 0, a, b, false), over);
        due.is("D of " + a + " ahead of " + b + ", " + log, x.ahead(0, 0, a, b, true), under);
    }

    static void term4_ahead_is_a_fraction_in_least_terms() {
        ahead(TWO, "", 0, 1, 1, 2);
        ahead(TWO, "was 1 2;", 0, 1, 1, 1);
        ahead(TWO, "was 1 2;", 1, 0, 0, 1);
        // 2 READS behind 0, 1 anywhere: 012, 021, 102 FIT.
        String three = Edges.proof("0") + THREE + Edges.readers(1, "1", "-", "2");
        ahead(three, "was 0 2;", 0, 2, 1, 1);
        ahead(three, "was 0 2;", 0, 1, 2, 3);
        ahead(three, "was 0 2;", 1, 0, 1, 3);
        ahead(three, "was 0 2;", 1, 2, 2, 3);
        ahead(three, "was 0 2;", 2, 0, 0, 1);
    }

    static void term4_ahead_of_six() {
        ahead("reader 1 1;".repeat(6), "", 5, 0, 1, 2);
        ahead("reader 1 1;".repeat(6), "", 0, 5, 1, 2);
    }

    static void promise22_none_where_nothing_fits_no_two_or_none_such() {
        ProofLine x = Edges.logs(TWO, "", "was 1 0;");
        for (boolean under : new boolean[] {false, true}) {
            due.is("there", x.ahead(0, 0, 0, 1, under), under ? 2 : 1);
            due.is("nothing FITS", x.ahead(0, 1, 0, 1, under), NONE);
            due.is("one and the same", x.ahead(0, 0, 0, 0, under), NONE);
            due.is("one and the same", x.ahead(0, 0, 1, 1, under), NONE);
            due.is("reader 2 of two", x.ahead(0, 0, 2, 0, under), NONE);
            due.is("reader 2 of two", x.ahead(0, 0, 0, 2, under), NONE);
            due.is("reader -1", x.ahead(0, 0, -1, 0, under), NONE);
            due.is("reader -1", x.ahead(0, 0, 0, -1, under), NONE);
            due.is("paper 1 of one", x.ahead(1, 0, 0, 1, under), NONE);
            due.is("paper -1", x.ahead(-1, 0, 0, 1, under), NONE);
            due.is("log 2 of two", x.ahead(0, 2, 0, 1, under), NONE);
            due.is("log -1", x.ahead(0, -1, 0, 1, under), NONE);
            for (int odd : Edges.ODD) {
                due.is("a " + odd, x.ahead(0, 0, odd, 0, under), NONE);
                due.is("b " + odd, x.ahead(0, 0, 0, odd, under), NONE);
                due.is("paper " + odd, x.ahead(odd, 0, 0, 1, under), NONE);
                due.is("log " + odd, x.ahead(0, odd, 0, 1, under), NONE);
            }
        }
    }

    // ---- promise 31 ----

    private static void firsts(String paper, String log, int... told) {
        ProofLine x = Edges.logs(paper, log);
        for (int what = 0; what < 4; what++) {
            due.is("firsts " + what + ", " + log + " of " + paper, x.firsts(0, 0, what), told[what]);
        }
    }

    static void term5_firsts_and_lasts_are_of_any_order_that_fits() {
        firsts(TWO, "", 3, 3, 1, 1);
        firsts(TWO, "was 1 2;", 1, 2, 1, 1);
        firsts(TWO, "was 1 1;", 2, 1, 1, 1);
        firsts("reader 1 1;", "", 1, 1, 0, 0);
        firsts("reader 1 1;".repeat(6), "", 63, 63, 0, 0);
    }

    static void term5_best_and_worst_are_of_those_that_fit_alone() {
        // Behind 012 and 102 CONTENT of all is 2, behind 201 and 210 2, behind 021 and 120 1.
        String three = Edges.proof("0") + THREE + Edges.readers(1, "1", "1", "2");
        firsts(three, "", 7, 7, 2, 1);
        firsts(three, "was 0 2;", 3, 4, 1, 1);
        firsts(three, "was 0 1;", 7, 3, 2, 2);
        // One who undoes a step: best is 2, worst is 0.
        firsts(Edges.proof("0") + LINE + Edges.readers(1, "2", "2", "0"), "", 7, 7, 2, 0);
    }

    static void promise31_nothing_where_nothing_fits() {
        firsts(TWO, "was 1 0;", 0, 0, NONE, NONE);
        firsts("", "was 0 0;", 0, 0, NONE, NONE);
    }

    static void promise31_without_readers_nobody_is_first_or_last() {
        firsts("", "", 0, 0, 0, 0);
        firsts("word 3;", "was 0 3;", 0, 0, 0, 0);
    }

    static void promise31_minus_2_where_there_is_none_such_or_for_another_what() {
        ProofLine x = Edges.logs(TWO, "");
        for (int what = -5; what < 20; what++) {
            due.is("what " + what, x.firsts(0, 0, what) != -2, what >= 0 && what <= 3);
        }
        for (int odd : Edges.ODD) {
            due.is("what " + odd, x.firsts(0, 0, odd), -2);
            due.is("paper " + odd, x.firsts(odd, 0, 0), -2);
            due.is("log " + odd, x.firsts(0, odd, 0), -2);
        }
        for (int odd : new int[] {1, 2, -1}) {
            due.is("paper " + odd, x.firsts(odd, 0, 0), -2);
            due.is("log " + odd, x.firsts(0, odd, 0), -2);
            due.is("BEST, log " + odd, x.firsts(0, odd, 2), -2);
            due.is("WORST, paper " + odd, x.firsts(odd, 0, 3), -2);
        }
    }

    // ---- term 4: DRAWN ----

    /** The SEED's x behind one number drawn, told apart from how the program has it: in 64 bits, cut to 32. */
    private static long next(long x) {
        return ((x & 0xffffffffL) * 1103515245L + 12345L) & 0xffffffffL;
    }

    private static int below(long x, int n) {
        return (int) (x / 65536 % n);
    }

    /** The first SEED from there on whose numbers below so many are those wanted (NONE: any). */
    private static int seed(int from, int[] below, int... wanted) {
        for (int seed = from; seed < from + 4000000; seed++) {
            long x = seed;
            boolean all = true;
            for (int i = 0; i < wanted.length && all; i++) {
                x = next(x);
                all = wanted[i] == NONE || below(x, below[i]) == wanted[i];
            }
            if (all) {
                return seed;
            }
        }
        throw new IllegalStateException("no such seed");
    }

    private static final String DRAW = Edges.proof("012") + LINE + Edges.readers(1, "9--", "-9-", "--9");

    private static int stands(ProofLine x, int seed, int n) {
        return 100 * x.drawn(0, seed, n, 10) + 10 * x.drawn(0, seed, n, 11) + x.drawn(0, seed, n, 12);
    }

    static void term4_drawn_0_to_3_read() {
        ProofLine x = Edges.papers(DRAW);
        int[] behind = {112, 22, 13};
        for (int lot = 0; lot <= 3; lot++) {
            for (int reader = 0; reader < 3; reader++) {
                int seed = seed(1, new int[] {10, 3}, lot, reader);
                due.is("lot " + lot + ", READER " + reader, stands(x, seed, 1), behind[reader]);
                due.is("one change", x.drawn(0, seed, 1, 0), 1);
            }
        }
    }

    static void term4_drawn_4_and_5_set() {
        ProofLine x = Edges.papers(DRAW);
        for (int lot = 4; lot <= 5; lot++) {
            due.is("9 at 0", stands(x, seed(1, new int[] {10, 3, 10}, lot, 0, 9), 1), 912);
            due.is("0 at 1", stands(x, seed(1, new int[] {10, 3, 10}, lot, 1, 0), 1), 2);
            due.is("7 at 2", stands(x, seed(1, new int[] {10, 3, 10}, lot, 2, 7), 1), 17);
            due.is("no change of a READER", x.drawn(0, seed(1, new int[] {10, 3, 10}, lot, 2, 7), 1, 0), 0);
        }
    }

    static void term4_drawn_6_stet() {
        ProofLine x = Edges.papers(DRAW);
        for (int reader = 0; reader < 3; reader++) {
            for (int place = 0; place < 3; place++) {
                int seed = seed(1, new int[] {10, 3, 3}, 6, reader, place);
                due.is("READER " + reader + " at " + place, x.drawn(0, seed, 1, 40 + reader), 1 << place);
                due.is("nothing else", stands(x, seed, 1), 12);
            }
        }
    }

    static void term4_drawn_7_join_8_part_it_and_1_more_remainder_by_10() {
        ProofLine x = Edges.papers(DRAW, "");
        int[] be = {10, 10, 9};
        due.is("0 and 2", x.drawn(1, seed(1, be, 7, 0, 1), 1, 50), 4);
        due.is("0 and 9", x.drawn(1, seed(1, be, 7, 0, 8), 1, 50), 512);
        due.is("9 and 0", x.drawn(1, seed(1, be, 7, 9, 0), 1, 59), 1);
        due.is("9 and 8", x.drawn(1, seed(1, be, 7, 9, 8), 1, 59), 256);
        due.is("5 and 4", x.drawn(1, seed(1, be, 7, 5, 8), 1, 54), 32);
        due.is("0 and 1 are parted", x.drawn(0, seed(1, be, 8, 0, 0), 1, 50), 0);
        due.is("9 and 8 are parted", x.drawn(0, seed(1, be, 8, 9, 8), 1, 58), 128);
        due.is("5 and 4 are parted", x.drawn(0, seed(1, be, 8, 5, 8), 1, 54), 8);
    }

    static void term4_drawn_9_print() {
        ProofLine x = Edges.papers(DRAW);
        int seed = seed(1, new int[] {10}, 9);
        due.is("once", x.drawn(0, seed, 1, 1), 1);
        due.is("what stands", x.drawn(0, seed, 1, 22), 2);
        due.is("nothing printed ahead", x.drawn(0, seed, 0, 22), 10);
    }

    static void term4_drawn_each_if_it_may() {
        ProofLine x = Edges.papers(DRAW, "");
        // set of the WORD that stands, join of two that are NEAR, part of two that are not: then print is drawn next.
        int seed = seed(1, new int[] {10, 3, 10, 10}, 4, 1, 1, 9);
        due.is("set of the same", stands(x, seed, 1), 12);
        due.is("the next is drawn", x.drawn(0, seed, 2, 1), 1);
        seed = seed(1, new int[] {10, 10, 9, 10}, 7, 3, 0, 9);
        due.is("join of two that are NEAR", x.drawn(0, seed, 1, 53), 20);
        due.is("the next is drawn", x.drawn(0, seed, 2, 1), 1);
        seed = seed(1, new int[] {10, 10, 9, 10}, 8, 3, 1, 9);
        due.is("part of two that are not", x.drawn(0, seed, 1, 53), 20);
        due.is("the next is drawn", x.drawn(0, seed, 2, 1), 1);
        seed = seed(1, new int[] {10, 3, 3, 10, 3, 3, 10}, 6, 2, 1, 6, 2, 1, 9);
        due.is("stet twice", x.drawn(0, seed, 2, 42), 2);
        due.is("the next is drawn", x.drawn(0, seed, 3, 1), 1);
    }

    static void term4_drawn_without_readers_0_to_3_and_6_draw_no_more() {
        ProofLine x = Edges.papers(Edges.proof("012") + LINE);
        for (int lot : new int[] {0, 1, 2, 3, 6}) {
            int seed = seed(1, new int[] {10, 10}, lot, 9);
            due.is("nothing by " + lot, stands(x, seed, 1), 12);
            due.is("print is next behind " + lot, x.drawn(0, seed, 2, 1), 1);
        }
        for (int lot = 4; lot <= 5; lot++) {
            int seed = seed(1, new int[] {10, 3, 10, 10}, lot, 1, 7, 9);
            due.is("set is drawn whole", stands(x, seed, 1), 72);
            due.is("print is next", x.drawn(0, seed, 2, 1), 1);
        }
    }

    static void term4_drawn_without_places_4_to_6_draw_no_more() {
        ProofLine x = Edges.papers(LINE + "reader 1 1;reader 1 1;reader 1 1;");
        for (int lot = 4; lot <= 6; lot++) {
            int seed = seed(1, new int[] {10, 10}, lot, 9);
            due.is("print is next behind " + lot, x.drawn(0, seed, 2, 1), 1);
            due.is("nothing to leave", x.drawn(0, seed, 2, 40) + x.drawn(0, seed, 2, 41) + x.drawn(0, seed, 2, 42), 0);
        }
        for (int lot = 0; lot <= 3; lot++) {
            // The READER is drawn all the same: not print, then, but what follows him.
            int seed = seed(1, new int[] {10, 3, 10}, lot, NONE, 9);
            due.is("print is behind the READER drawn by " + lot, x.drawn(0, seed, 2, 1), 1);
        }
    }

    static void term4_drawn_without_readers_and_places_0_to_6_draw_no_more() {
        ProofLine x = Edges.papers("");
        for (int lot = 0; lot <= 6; lot++) {
            due.is("print is next behind " + lot, x.drawn(0, seed(1, new int[] {10, 10}, lot, 9), 2, 1), 1);
        }
    }

    static void term4_drawn_with_one_reader_and_one_place() {
        // A number below 1 is drawn for each, and the DEED is done.
        ProofLine x = Edges.papers(Edges.proof("0") + LINE + Edges.readers(1, "9"));
        for (int lot = 0; lot <= 3; lot++) {
            int seed = seed(1, new int[] {10, 1, 10}, lot, 0, 9);
            due.is("read by " + lot, x.drawn(0, seed, 2, 10), 1);
            due.is("then print", x.drawn(0, seed, 2, 20), 1);
        }
        for (int lot = 4; lot <= 5; lot++) {
            int seed = seed(1, new int[] {10, 1, 10, 10}, lot, 0, 7, 9);
            due.is("set by " + lot, x.drawn(0, seed, 2, 10), 7);
            due.is("then print", x.drawn(0, seed, 2, 20), 7);
        }
        int seed = seed(1, new int[] {10, 1, 1, 10}, 6, 0, 0, 9);
        due.is("stet", x.drawn(0, seed, 2, 40), 1);
        due.is("then print", x.drawn(0, seed, 2, 1), 1);
    }

    static void term4_drawn_with_six_readers_and_eight_places() {
        ProofLine x = Edges.papers(Edges.proof("00000000") + LINE
            + Edges.readers(1, "", "", "", "", "", "-------9"));
        due.is("the sixth READS", x.drawn(0, seed(1, new int[] {10, 6}, 0, 5), 1, 17), 1);
        due.is("the eighth is set", x.drawn(0, seed(1, new int[] {10, 8, 10}, 4, 7, 9), 1, 17), 9);
        due.is("the sixth is to leave the eighth", x.drawn(0, seed(1, new int[] {10, 6, 8}, 6, 5, 7), 1, 45), 128);
    }

    static void term4_drawn_x_is_shifted_without_sign_and_wraps() {
        // Negative seeds, and such whose x is one: the number drawn is below 10 all the same.
        for (int seed : new int[] {-1, -2, -12345, Edges.MIN, Edges.MIN + 1, Edges.MAX, Edges.MAX - 1, 0, 1}) {
            ProofLine x = Edges.papers("");
            long at = seed;
            int prints = 0;
            for (int n = 1; n <= 60; n++) {
                at = next(at);
                int lot = below(at, 10);
                prints += lot == 9 ? 1 : 0;
                at = lot == 7 || lot == 8 ? next(next(at)) : at;
                due.is("prints of " + n + " by " + seed, x.drawn(0, seed, n, 1), prints);
            }
        }
    }

    static void term4_drawn_0_to_60_times() {
        ProofLine x = Edges.papers(DRAW);
        due.is("0: as told", stands(x, 77, 0), 12);
        due.is("0: nothing printed", x.drawn(0, 77, 0, 20), 10);
        due.is("0: NEAR as told", x.drawn(0, 77, 0, 50), 2);
        due.is("60", x.drawn(0, 77, 60, 1) >= 0, true);
        due.is("61", x.drawn(0, 77, 61, 1), -2);
        due.is("-1", x.drawn(0, 77, -1, 1), -2);
        // Sixty DEEDS that all can be, more than a WEEK has.
        ProofLine y = Edges.papers("");
        int most = 0;
        for (int seed = 1; seed <= 200; seed++) {
            most = Math.max(most, y.drawn(0, seed, 60, 1));
        }
        due.is("some print often", most >= 9, true);
    }

    static void term4_drawn_leaves_the_paper_as_told() {
        ProofLine x = Edges.papers(DRAW);
        for (int seed = 1; seed < 30; seed++) {
            int once = x.drawn(0, seed, 60, 50);
            due.is("the same again by " + seed, x.drawn(0, seed, 60, 50), once);
        }
        due.is("the PROOF", x.paper(0, 11), 1);
        due.is("STEPS", x.steps(0, 0, 9), 9);
    }

    static void promise23_minus_2_where_there_is_none_such_another_n_or_another_what() {
        ProofLine x = Edges.papers("word 0;word 1;reader 1 1;");
        for (int what = -20; what < 130; what++) {
            boolean there = what == 0 || what == 1 || what == 10 || what == 11 || what == 20 || what == 21 || what == 30
                || what == 40 || what >= 50 && what < 60;
            due.is("what " + what, x.drawn(0, 1, 3, what) != -2, there);
        }
        for (int odd : Edges.ODD) {
            due.is("what " + odd, x.drawn(0, 1, 3, odd), -2);
            due.is("n " + odd, x.drawn(0, 1, odd, 0), -2);
            due.is("paper " + odd, x.drawn(odd, 1, 3, 0), -2);
        }
        due.is("paper 1 of one", x.drawn(1, 1, 3, 0), -2);
        due.is("paper -1", x.drawn(-1, 1, 3, 0), -2);
    }
}
