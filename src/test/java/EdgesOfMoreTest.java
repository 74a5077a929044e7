/** Boundary cases of term 5 (kin, distance, peace, median, rise, the last word, what a week leaves): promises 24 to 30. */
final class EdgesOfMoreTest {
    private static final Due due = new Due();
    private static final int NONE = Edges.NONE;
    private static final String LINE = Edges.chains("0123456789");
    /** Three WORDS, each NEAR the two others: who READS has his way at once. */
    private static final String THREE = Edges.chains("0120");
    /** Each WORD NEAR all others. */
    private static final String ALL = all();

    public static void main(String[] args) throws Exception {
        Edges.run(EdgesOfMoreTest.class, due);
    }

    private static String all() {
        StringBuilder s = new StringBuilder();
        for (int a = 0; a < 10; a++) {
            for (int b = a + 1; b < 10; b++) {
                s.append("near").append(a).append(" ").append(b).append(";");
            }
        }
        return s.toString();
    }

    // ---- term 5: KIN, WIDEST, LONE, BRIDGES, CIRCLE ----

    /** KIN, the largest, WIDEST, LONE, BRIDGES, CIRCLE. */
    private static void kin(String paper, int... told) {
        ProofLine x = Edges.papers(paper);
        for (int what = 0; what < 6; what++) {
            due.is("kin " + what + " of " + paper, x.kin(0, what), told[what]);
        }
    }

    static void term5_kin_where_none_are_near() {
        kin("", 10, 1, 0, 1023, 0, NONE);
        kin("word 1;reader 1 1;", 10, 1, 0, 1023, 0, NONE);
    }

    static void term5_kin_where_all_are_near() {
        kin(ALL, 1, 10, 1, 0, 0, 3);
    }

    static void term5_kin_of_all_in_a_row_and_in_a_ring() {
        kin(LINE, 1, 10, 9, 0, 9, NONE);
        kin(LINE + "near 9 0;", 1, 10, 5, 0, 0, 10);
    }

    static void term5_kin_of_one_couple() {
        kin("near 0 9;", 9, 2, 1, 510, 1, NONE);
        kin("near 8 9;", 9, 2, 1, 255, 1, NONE);
    }

    static void term5_lone_is_near_none() {
        kin(Edges.chains("012345678"), 2, 9, 8, 512, 8, NONE);
        kin(Edges.chains("123456789"), 2, 9, 8, 1, 8, NONE);
    }

    static void term5_kin_largest_of_several() {
        kin(Edges.chains("01", "2345", "67"), 5, 4, 3, 768, 5, NONE);
    }

    static void term5_widest_is_of_those_that_steps_lead_between() {
        // A star: two STEPS at most; and a row of four apart from it: three.
        kin(Edges.chains("102", "304", "05", "6789"), 2, 6, 3, 0, 8, NONE);
    }

    static void term5_bridges_are_couples_that_nothing_else_joins() {
        // Two rings of three, joined by one couple, and a tail.
        kin(Edges.chains("0120", "3453", "23", "56"), 4, 7, 4, 896, 2, 3);
        // With another couple between them there is only the tail.
        kin(Edges.chains("0120", "3453", "23", "04", "56"), 4, 7, 4, 896, 1, 3);
    }

    static void term5_bridges_are_counted_once_each() {
        kin(Edges.chains("01", "23", "45", "67", "89"), 5, 2, 1, 0, 5, NONE);
    }

    static void term5_circle_has_three_or_more() {
        // A couple told both ways is no circle.
        kin("near 0 1;near 1 0;", 9, 2, 1, 1020, 1, NONE);
        kin(THREE, 8, 3, 1, 1016, 0, 3);
        kin(Edges.chains("01230"), 7, 4, 2, 1008, 0, 4);
    }

    static void term5_circle_is_the_fewest() {
        kin(Edges.chains("01230", "45674", "464"), 4, 4, 2, 768, 0, 3);
        kin(Edges.chains("0120", "34563"), 5, 4, 2, 896, 0, 3);
        // A ring of six with one couple across: of four.
        kin(Edges.chains("0123450", "03"), 5, 6, 3, 960, 0, 4);
    }

    static void term5_bridges_and_circle_asked_alone() {
        String paper = Edges.chains("0120", "3453", "23", "56");
        due.is("CIRCLE", Edges.papers(paper).kin(0, 5), 3);
        due.is("BRIDGES", Edges.papers(paper).kin(0, 4), 2);
        ProofLine x = Edges.papers(paper, "near 0 1;");
        due.is("of the other PAPER none", x.kin(1, 5), NONE);
        due.is("CIRCLE", x.kin(0, 5), 3);
        due.is("of the other PAPER one", x.kin(1, 4), 1);
        due.is("BRIDGES", x.kin(0, 4), 2);
    }

    static void promise24_minus_2_where_there_is_none_such_or_for_another_what() {
        ProofLine x = Edges.papers("");
        for (int what = -5; what < 20; what++) {
            due.is("what " + what, x.kin(0, what) != -2, what >= 0 && what <= 5);
        }
        for (int odd : Edges.ODD) {
            due.is("what " + odd, x.kin(0, odd), -2);
            due.is("paper " + odd, x.kin(odd, 0), -2);
        }
        due.is("paper 1 of one", x.kin(1, 5), -2);
        due.is("paper -1", x.kin(-1, 5), -2);
    }

    // ---- term 5: DISTANCE, ALONE, RIVALS ----

    /** Of the first READER: DISTANCE, ALONE. */
    private static void distance(String paper, int distance, int alone) {
        ProofLine x = Edges.papers(paper);
        due.is("DISTANCE of " + paper, x.distance(0, 0, 0), distance);
        due.is("ALONE of " + paper, x.distance(0, 0, 1), alone);
    }

    static void term5_distance_of_places_where_there_are_any_steps() {
        distance(Edges.proof("000") + Edges.chains("012", "34") + Edges.readers(9, "234"), 2, 2);
        distance(Edges.proof("0") + Edges.readers(9, "1"), 0, 0);
        distance(Edges.proof("00") + LINE + Edges.readers(9, "-3"), 3, 3);
        distance(Edges.proof("55") + LINE + Edges.readers(9, "5-"), 0, 0);
        distance("reader 1 1;", 0, 0);
    }

    static void term5_distance_at_most_and_alone_as_often_as_he_needs() {
        distance(Edges.proof("00000000") + LINE + Edges.readers(1, "99999999"), 72, 72);
        distance(Edges.proof("00000000") + LINE + Edges.readers(9, "99999999"), 72, 9);
        distance(Edges.proof("00000000") + LINE + Edges.readers(7, "99999999"), 72, 18);
    }

    static void term5_alone_0_without_patience() {
        distance(Edges.proof("0") + LINE + Edges.readers(0, "9"), 9, 0);
    }

    static void term5_distance_does_not_ask_for_patience() {
        distance(Edges.proof("0000") + LINE + Edges.readers(1, "1111"), 4, 4);
    }

    static void term5_rivals_want_another_word_at_any_place_where_both_want_one() {
        ProofLine x = Edges.papers(Edges.proof("00") + Edges.readers(1, "1-", "12", "-3", "2-", "--", "12"));
        int[] rivals = {8, 4 + 8, 2 + 32, 1 + 2 + 32, 0, 4 + 8};
        for (int r = 0; r < 6; r++) {
            due.is("RIVALS of " + r, x.distance(0, r, 2), rivals[r]);
        }
    }

    static void term5_nobody_is_his_own_rival() {
        due.is("alone", Edges.papers(Edges.proof("0") + Edges.readers(1, "5")).distance(0, 0, 2), 0);
        due.is("two that want the same", Edges.papers(Edges.proof("0") + Edges.readers(1, "5", "5")).distance(0, 1, 2), 0);
    }

    static void promise25_minus_2_where_there_is_none_such_or_for_another_what() {
        ProofLine x = Edges.papers("reader 1 1;reader 1 1;", "");
        for (int what = -5; what < 20; what++) {
            due.is("what " + what, x.distance(0, 1, what) != -2, what >= 0 && what <= 2);
        }
        for (int odd : Edges.ODD) {
            due.is("what " + odd, x.distance(0, 0, odd), -2);
            due.is("reader " + odd, x.distance(0, odd, 0), -2);
            due.is("paper " + odd, x.distance(odd, 0, 0), -2);
        }
        for (int what = 0; what <= 2; what++) {
            due.is("reader 2 of two", x.distance(0, 2, what), -2);
            due.is("reader -1", x.distance(0, -1, what), -2);
            due.is("reader 0 of none", x.distance(1, 0, what), -2);
            due.is("paper 2 of two", x.distance(2, 0, what), -2);
            due.is("paper -1", x.distance(-1, 0, what), -2);
        }
    }

    // ---- term 5: PEACE ----

    private static void peace(String paper, int many, int which) {
        ProofLine x = Edges.papers(paper);
        due.is("PEACE, how many, " + paper, x.peace(0, false), many);
        due.is("PEACE, which, " + paper, x.peace(0, true), which);
    }

    static void term5_peace_of_nobody_of_one_and_of_all() {
        peace("", 0, 0);
        peace("word 0;", 0, 0);
        peace("reader 1 1;", 1, 1);
        peace(Edges.proof("0") + Edges.readers(1, "5"), 1, 1);
        peace("reader 1 1;".repeat(6), 6, 63);
    }

    static void term5_peace_of_several_the_least() {
        peace(Edges.proof("0") + Edges.readers(1, "1", "2"), 1, 1);
        peace(Edges.proof("0") + Edges.readers(1, "1", "2", "3", "4", "5", "6"), 1, 1);
        peace(Edges.proof("0") + Edges.readers(1, "1", "2", "1", "2"), 2, 5);
        peace(Edges.proof("0") + Edges.readers(1, "1", "2", "2", "1"), 2, 6);
    }

    static void term5_peace_is_the_most_of_whom_no_two_are_rivals() {
        peace(Edges.proof("0") + Edges.readers(1, "1", "2", "2"), 2, 6);
        peace(Edges.proof("0") + Edges.readers(1, "1", "2", "2", "-"), 3, 14);
        // Each by his neighbour at another PLACE: every second one.
        peace(Edges.proof("00000") + Edges.readers(1, "1----", "21---", "-21--", "--21-", "---21", "----2"), 3, 21);
    }

    static void promise26_none_where_there_is_none_such() {
        ProofLine x = Edges.papers("");
        for (boolean which : new boolean[] {false, true}) {
            due.is("paper 1 of one", x.peace(1, which), NONE);
            due.is("paper -1", x.peace(-1, which), NONE);
            for (int odd : Edges.ODD) {
                due.is("paper " + odd, x.peace(odd, which), NONE);
            }
        }
    }

    // ---- term 5: MEDIAN ----

    private static void median(String paper, int word, int much) {
        ProofLine x = Edges.papers(paper);
        due.is("MEDIAN of " + paper, x.median(0, 0, false), word);
        due.is("MEDIAN, how many, " + paper, x.median(0, 0, true), much);
    }

    static void term5_median_counts_10_where_no_steps_lead() {
        median(Edges.proof("0") + Edges.readers(1, "3", "8"), 3, 10);
        median(Edges.proof("0") + Edges.readers(1, "8", "8", "3"), 8, 10);
        median(Edges.proof("0") + Edges.readers(1, "9", "8", "7", "6", "5", "4"), 4, 50);
        // Nine STEPS are fewer than none.
        median(Edges.proof("0") + LINE + Edges.readers(1, "9", "0"), 0, 9);
    }

    static void term5_median_of_several_the_least() {
        median(Edges.proof("0") + LINE + Edges.readers(1, "7", "4"), 4, 3);
        // Between two, where nobody wants it.
        median(Edges.proof("0") + Edges.chains("427") + Edges.readers(1, "4", "7"), 2, 2);
        median(Edges.proof("0") + LINE + Edges.readers(1, "2", "5", "9"), 5, 7);
    }

    static void term5_median_where_nobody_wants_any() {
        median(Edges.proof("7") + LINE + Edges.readers(1, "-", "-"), 0, 0);
        median("word 7;", 0, 0);
    }

    static void term5_median_of_one_is_what_he_wants() {
        median(Edges.proof("0") + Edges.readers(1, "9"), 9, 0);
        median(Edges.proof("0") + LINE + Edges.readers(1, "6", "-"), 6, 0);
    }

    static void term5_median_counts_each_reader() {
        median(Edges.proof("0") + LINE + Edges.readers(1, "0", "9", "9"), 9, 9);
    }

    static void promise27_none_where_there_is_none_such_of_either() {
        ProofLine x = Edges.papers(Edges.proof("0") + Edges.readers(1, "1"));
        for (boolean much : new boolean[] {false, true}) {
            due.is("there", x.median(0, 0, much), much ? 0 : 1);
            due.is("PLACE 1 of one", x.median(0, 1, much), NONE);
            due.is("PLACE -1", x.median(0, -1, much), NONE);
            due.is("paper 1 of one", x.median(1, 0, much), NONE);
            due.is("paper -1", x.median(-1, 0, much), NONE);
            for (int odd : Edges.ODD) {
                due.is("place " + odd, x.median(0, odd, much), NONE);
                due.is("paper " + odd, x.median(odd, 0, much), NONE);
            }
        }
    }

    // ---- term 5: RISE, BEND, TWICE, UNLIKE, COMMON ----

    private static void rise(String proof, int... row) {
        ProofLine x = Edges.papers(Edges.proof(proof));
        due.is("RISE of " + proof, x.rise(0, 0), row.length);
        for (int k = 0; k < row.length; k++) {
            due.is("the " + k + "th of RISE of " + proof, x.rise(0, 10 + k), row[k]);
        }
        due.is("not so many of " + proof, x.rise(0, 10 + row.length), -2);
    }

    static void term5_rise_of_no_places_and_of_one() {
        rise("");
        rise("0", 0);
        rise("9", 0);
    }

    static void term5_rise_is_of_greater_words() {
        rise("55", 0);
        rise("98765432", 0);
        rise("01234567", 0, 1, 2, 3, 4, 5, 6, 7);
        rise("00112233", 0, 2, 4, 6);
    }

    static void term5_rise_is_the_first_row_by_numbers() {
        rise("1212", 0, 1);
        rise("3132", 1, 2);
        rise("5901", 0, 1);
        rise("1324", 0, 1, 3);
        rise("1523", 0, 2, 3);
        rise("45670123", 0, 1, 2, 3);
    }

    static void term5_rise_need_not_begin_at_place_0() {
        rise("2123", 1, 2, 3);
        rise("9012", 1, 2, 3);
        rise("90909123", 1, 5, 6, 7);
    }

    private static void whole(String proof, int bend, int twice, int unlike, int common) {
        ProofLine x = Edges.papers(Edges.proof(proof));
        due.is("BEND of " + proof, x.rise(0, 1), bend);
        due.is("TWICE of " + proof, x.rise(0, 2), twice);
        due.is("UNLIKE of " + proof, x.rise(0, 3), unlike);
        due.is("COMMON of " + proof, x.rise(0, 4), common);
    }

    static void term5_bend_twice_unlike_common_without_places() {
        whole("", 0, 0, 0, NONE);
    }

    static void term5_bend_twice_unlike_common_of_one_place() {
        whole("0", 0, 0, 1, 0);
        whole("9", 0, 0, 1, 9);
    }

    static void term5_bend_is_the_fewest_places_to_set_anew() {
        whole("12", 1, 0, 2, 1);
        whole("121", 0, 1, 2, 1);
        whole("123", 1, 0, 3, 1);
        whole("1221", 0, 1, 2, 1);
        whole("12345678", 4, 0, 8, 1);
        whole("1234567", 3, 0, 7, 1);
    }

    static void term5_twice_may_lie_upon_each_other() {
        whole("11", 0, 1, 1, 1);
        whole("111", 0, 2, 1, 1);
        whole("11111111", 0, 7, 1, 1);
        whole("12121", 0, 3, 2, 1);
    }

    static void term5_twice_is_the_longest_at_another_beginning() {
        whole("12341234", 4, 4, 4, 1);
        whole("51265127", 4, 3, 5, 1);
        whole("81238123", 4, 4, 4, 1);
        whole("12345671", 3, 1, 7, 1);
    }

    static void term5_common_of_several_the_least() {
        whole("9330", 1, 1, 3, 3);
        whole("9393", 2, 2, 2, 3);
        whole("90", 1, 0, 2, 0);
        whole("9900", 2, 1, 2, 0);
        whole("99000999", 1, 2, 2, 9);
    }

    static void promise28_minus_2_where_there_is_none_such_not_so_many_or_another_what() {
        ProofLine x = Edges.papers(Edges.proof("12"), "");
        for (int what = -5; what < 30; what++) {
            due.is("what " + what, x.rise(0, what) != -2, what >= 0 && what <= 4 || what == 10 || what == 11);
            due.is("of none, what " + what, x.rise(1, what) != -2, what >= 0 && what <= 4);
        }
        for (int odd : Edges.ODD) {
            due.is("what " + odd, x.rise(0, odd), -2);
            due.is("paper " + odd, x.rise(odd, 0), -2);
        }
        due.is("paper 2 of two", x.rise(2, 0), -2);
        due.is("paper -1", x.rise(-1, 0), -2);
        due.is("the eighth", Edges.papers(Edges.proof("01234567")).rise(0, 17), 7);
        due.is("the ninth", Edges.papers(Edges.proof("01234567")).rise(0, 18), -2);
    }

    // ---- term 5: IDLE, LASTWORD, SWAP, TEACH, BLAME ----

    private static void last(String paper, int from, int... told) {
        ProofLine x = Edges.papers(paper);
        for (int i = 0; i < told.length; i++) {
            due.is("lastWord " + (from + i) + " of " + paper, x.lastWord(0, from + i), told[i]);
        }
    }

    static void term5_idle_readers_change_nothing_alone() {
        // No patience; nothing wanted; what stands is wanted; no way; and two who change.
        String paper = Edges.proof("00") + LINE.replace("near 8 9;", "") + Edges.reader(0, 0, 1, "11")
            + Edges.reader(1, 9, 1, "--") + Edges.reader(2, 9, 1, "00") + Edges.reader(3, 9, 1, "99")
            + Edges.reader(4, 1, 1, "-1") + Edges.reader(5, 1, 1, "91");
        last(paper, 0, 15);
        last("", 0, 0);
        last("reader 9 9;".repeat(6), 0, 63);
    }

    static void term5_idle_is_of_a_reading_alone() {
        // Behind 0's READING the second one would have nothing to do.
        last(Edges.proof("0") + THREE + Edges.readers(1, "1", "1"), 0, 0);
    }

    static void term5_last_word_none_without_readers() {
        last("", 1, NONE, 0);
        last("word 0;", 1, NONE, 0);
    }

    static void term5_last_word_of_several_the_least() {
        last(Edges.proof("0") + THREE + Edges.readers(1, "1", "2"), 1, 0, 1);
        last("reader 1 1;reader 1 1;", 1, 0, 0);
        last(Edges.proof("0") + THREE + Edges.readers(1, "1", "2", "2"), 1, 1, 2);
        last(Edges.proof("0") + THREE + Edges.readers(1, "-"), 1, 0, 0);
    }

    static void term5_last_word_all_others_read_ahead_by_numbers() {
        // If 0 is last, 1 and 2 go by numbers: at PLACE 1 2 has his way, as 3 wants it, who has no patience.
        last(Edges.proof("00") + THREE + Edges.readers(9, "1-", "-1", "-2") + Edges.reader(3, 0, 1, "-2"), 1, 0, 3);
        // Here 3 wants it as 1 does, who is to be last.
        last(Edges.proof("00") + THREE + Edges.readers(9, "--", "-1", "-2") + Edges.reader(3, 0, 1, "-1"), 1, 1, 2);
        // 0 undoes a step of the two others: he is not to be last.
        last(Edges.proof("2") + LINE + Edges.readers(1, "0", "3", "3"), 1, 1, 2);
    }

    static void term5_last_word_the_others_begin_with_the_first() {
        // 1 is to be last; what 0, ahead of all, puts at PLACE 0 counts, too.
        last(Edges.proof("00") + THREE + Edges.readers(9, "1-", "-1", "-2") + Edges.reader(3, 0, 1, "-1"), 1, 1, 3);
    }

    static void term5_swap_the_row_begins_with_the_first_of_it() {
        last(Edges.proof("000") + THREE + Edges.readers(9, "1--", "-1-", "-22") + Edges.reader(3, 0, 1, "-1-"),
            3, 2, 4);
    }

    static void term5_swap_none_of_fewer_than_two() {
        last("", 3, NONE, 0);
        last("reader 1 1;", 3, NONE, 0);
        last(Edges.proof("0") + THREE + Edges.readers(1, "0"), 3, NONE, 0);
    }

    static void term5_swap_of_two() {
        last("reader 1 1;reader 1 1;", 3, 1, 0);
        last(Edges.proof("0") + THREE + Edges.readers(1, "1", "2"), 3, 1, 1);
    }

    static void term5_swap_of_several_the_least() {
        last("reader 1 1;".repeat(6), 3, 1, 0);
        // By numbers 2 has his way, who alone wants 2; 0 or 1 for him are as good.
        last(Edges.proof("0") + THREE + Edges.readers(1, "1", "1", "2"), 3, 2, 2);
    }

    static void term5_swap_is_the_best_of_all() {
        // 3 must be the last who goes: 5, who wants the same, has no patience.
        String paper = Edges.proof("0") + ALL + Edges.readers(1, "2", "3", "4", "1", "5") + Edges.reader(5, 0, 1, "1");
        last(paper, 3, 34, 2);
    }

    static void term5_swap_changes_their_places_in_the_row() {
        // 0 and 2 change: 2 1 0, not 1 2 0 nor 2 0 1: 1 must READ ahead of 0, 2 ahead of 1.
        String paper = Edges.proof("000") + THREE + Edges.readers(9, "1-1", "21-", "-22") + Edges.reader(3, 0, 1, "111");
        last(paper, 3, 2, 6);
    }

    static void term5_teach_none_where_all_are_near() {
        last(Edges.proof("0") + ALL + Edges.readers(1, "5"), 5, NONE, 0);
        last(ALL, 5, NONE, 0);
    }

    static void term5_teach_the_only_two_that_are_not_near() {
        last(Edges.proof("0") + ALL.replace("near8 9;", "") + Edges.readers(1, "0"), 5, 89, 1);
        last(Edges.proof("0") + ALL.replace("near0 1;", "") + Edges.readers(1, "1"), 5, 1, 1);
    }

    static void term5_teach_of_several_the_least() {
        last("", 5, 1, 0);
        last(Edges.proof("0") + LINE + Edges.readers(1, "0"), 5, 2, 1);
        last(Edges.proof("3") + Edges.readers(1, "7"), 5, 37, 1);
        last(Edges.proof("7") + Edges.readers(1, "3"), 5, 37, 1);
        // Two who READ come from 0 to 9 by 4, if 0 and 4 were NEAR; by 5, if 5 and 9 were; or at once.
        last(Edges.proof("0") + Edges.chains("49", "05") + Edges.readers(1, "9", "9"), 5, 4, 2);
    }

    static void term5_teach_one_couple_at_a_time() {
        // Were 0 and 9 NEAR and 1 and 8, too, CONTENT were 2: but it is one couple.
        last(Edges.proof("01") + Edges.readers(1, "9-", "-8"), 5, 9, 1);
        last(Edges.proof("18") + Edges.readers(1, "0-", "-9"), 5, 1, 1);
    }

    static void term5_how_much_of_as_many_as_a_text_can_tell() {
        // Six READERS WANT what stands at seven PLACES, one of them another WORD at the eighth: 43 wants, 581 bytes.
        StringBuilder text = new StringBuilder("word0;".repeat(7) + "word8;" + "reader1 1;".repeat(6));
        for (int i = 0; i < 42; i++) {
            text.append("wants").append(i / 7).append(" ").append(i % 7).append(" 0;");
        }
        last(text + "wants0 7 9;", 1, 0, 42, 1, 42, 89, 43);
        last(text + "wants5 7 9;near8 9;", 1, 0, 43, 1, 43, 1, 43);
    }

    static void term5_teach_is_the_best_of_all() {
        // Four want what stands at five PLACES: 20; with 7 and 8 NEAR one more has his way, with 8 and 9 two.
        last(Edges.proof("0000088") + Edges.readers(1, "000007-", "00000-9", "00000-9", "00000--"), 5, 89, 22);
    }

    static void term5_teach_leaves_the_paper_as_told() {
        ProofLine x = Edges.papers(Edges.proof("0") + LINE + Edges.readers(1, "9"));
        due.is("0 and 9", x.lastWord(0, 5), 9);
        due.is("STEPS", x.steps(0, 0, 9), 9);
        due.is("NEAR", x.paper(0, 20), 2);
        due.is("BRIDGES", x.kin(0, 4), 9);
        due.is("STEPS", x.steps(0, 0, 9), 9);
    }

    static void term5_blame_none_where_nobody_changed_it() {
        last(Edges.proof("000") + LINE + Edges.readers(1, "0-9"), 10, NONE, NONE, 0, -2);
        last("word 0;", 10, NONE, -2);
        last("", 10, -2);
    }

    static void term5_blame_of_the_last_who_changed_it() {
        last(Edges.proof("000") + THREE + Edges.readers(9, "111", "2--", "-1-"), 10, 1, 0, 0);
        // 1 undoes what 0 did: he changed it, though it stands as at first.
        last(Edges.proof("0") + LINE + Edges.readers(1, "1", "0"), 10, 1);
    }

    static void promise29_minus_2_where_there_is_none_such_or_for_another_what() {
        ProofLine x = Edges.papers("word 0;word 1;");
        for (int what = -5; what < 40; what++) {
            due.is("what " + what, x.lastWord(0, what) != -2, what >= 0 && what <= 6 || what == 10 || what == 11);
        }
        for (int odd : Edges.ODD) {
            due.is("what " + odd, x.lastWord(0, odd), -2);
            due.is("paper " + odd, x.lastWord(odd, 0), -2);
        }
        for (int what : new int[] {0, 1, 2, 3, 4, 5, 6, 10}) {
            due.is("paper 1 of one", x.lastWord(1, what), -2);
            due.is("paper -1", x.lastWord(-1, what), -2);
        }
        due.is("PLACE 7 of eight", Edges.papers(Edges.proof("00000000")).lastWord(0, 17), NONE);
        due.is("PLACE 8 of eight", Edges.papers(Edges.proof("00000000")).lastWord(0, 18), -2);
    }

    // ---- term 5: of a WEEK ----

    /** FIRST, BUSIEST, SETS, TOUCHED, EDITIONS. */
    private static void after(String paper, String week, int... told) {
        ProofLine x = Edges.weeks(paper, week);
        for (int what = 0; what < 5; what++) {
            due.is("after " + what + ", " + week + " of " + paper, x.after(0, 0, what), told[what]);
        }
    }

    private static final String DAY = Edges.proof("000") + LINE + Edges.readers(2, "9--", "-99", "---");

    static void term5_after_a_week_of_nothing() {
        after(DAY, "", NONE, NONE, 0, 0, 0);
        after("", "", NONE, NONE, 0, 0, 0);
        after(DAY, "read 5;print;", NONE, NONE, 0, 0, 0);
    }

    static void term5_first_is_the_deed_by_which_a_reader_first_changed_anything() {
        after(DAY, "read 0;", 0, 0, 0, 1, 0);
        after(DAY, "read 2;read 1;read 0;", 1, 1, 0, 7, 0);
        after(DAY, "set 2 5;print;read 2;read 0;", 3, 0, 1, 5, 1);
        after(DAY, "print;".repeat(39) + "read 0;", 39, 0, 0, 1, 1);
    }

    static void term5_first_none_where_no_reader_changed_any() {
        after(DAY, "read 2;set 0 5;set 1 6;stet 0 0;read 0;", NONE, NONE, 2, 3, 0);
    }

    static void term5_busiest_of_several_the_least() {
        after(DAY, "read 1;read 0;read 0;", 0, 0, 0, 7, 0);
        after(DAY, "read 0;read 1;", 0, 1, 0, 7, 0);
        after(Edges.proof("0") + LINE + Edges.readers(1, "-", "9", "9"), "read 2;read 1;", 0, 1, 0, 1, 0);
    }

    static void term5_sets_are_those_up_to_stop() {
        after(DAY, "set 0 1;set 0 2;set 0 2;set 0 3;", NONE, NONE, 2, 1, 0);
        after(DAY, "set 0 0;", NONE, NONE, 0, 0, 0);
        after(DAY, "set 0 1;set 0 0;set 2 1;", NONE, NONE, 3, 5, 0);
    }

    static void term5_touched_also_where_it_stands_as_at_first_in_the_end() {
        after(DAY, "set 1 5;set 1 0;", NONE, NONE, 2, 2, 0);
        after(Edges.proof("0") + LINE + Edges.readers(1, "1", "0"), "read 0;read 1;", 0, 0, 0, 1, 0);
    }

    static void term5_touched_at_the_eighth_place() {
        after(Edges.proof("00000000"), "set 7 9;", NONE, NONE, 1, 128, 0);
    }

    static void term5_editions_are_unlike_proofs_that_were_printed() {
        after(DAY, "print;print;", NONE, NONE, 0, 0, 1);
        after(DAY, "print;set 0 1;print;set 0 0;print;set 0 1;", NONE, NONE, 3, 1, 2);
        after(DAY, "set 0 1;set 0 2;", NONE, NONE, 2, 1, 0);
        after("", "print;print;", NONE, NONE, 0, 0, 1);
    }

    static void term5_editions_count_each_but_once() {
        after(DAY, "set 0 5;print;print;", NONE, NONE, 1, 1, 1);
        after(DAY, "set 0 5;print;set 0 6;print;set 0 5;print;set 0 6;print;", NONE, NONE, 4, 1, 2);
        after(Edges.proof("00000009"), "print;set 7 8;print;set 7 9;print;", NONE, NONE, 2, 128, 2);
    }

    static void term5_each_week_is_by_itself() {
        ProofLine x = Edges.weeks(DAY, "read 0;read 0;set 2 5;print;set 2 6;print;", "set 1 5;read 1;print;");
        int[][] told = {{0, 0, 2, 5, 2}, {1, 1, 1, 6, 1}};
        for (int week : new int[] {0, 1, 0, 1, 1}) {
            for (int what = 0; what < 5; what++) {
                due.is("week " + week + " what " + what, x.after(0, week, what), told[week][what]);
            }
        }
    }

    static void term5_editions_may_be_twenty() {
        StringBuilder week = new StringBuilder();
        for (int i = 0; i < 20; i++) {
            week.append("set ").append(i / 9).append(" ").append(1 + i % 9).append(";print;");
        }
        due.is("all can be", Edges.weeks(DAY, week.toString()).stop(0, 0), 40);
        after(DAY, week.toString(), NONE, NONE, 20, 7, 20);
    }

    static void term5_after_counts_nothing_behind_stop() {
        after(DAY, "print;read 3;read 0;set 0 5;print;", NONE, NONE, 0, 0, 1);
        after(DAY, "read 0;part 0 9;read 1;read 1;set 1 5;", 0, 0, 0, 1, 0);
    }

    static void promise30_minus_2_where_there_is_none_such_or_for_another_what() {
        ProofLine x = Edges.weeks("", "");
        for (int what = -5; what < 20; what++) {
            due.is("what " + what, x.after(0, 0, what) != -2, what >= 0 && what <= 4);
        }
        for (int odd : Edges.ODD) {
            due.is("what " + odd, x.after(0, 0, odd), -2);
            due.is("paper " + odd, x.after(odd, 0, 0), -2);
            due.is("week " + odd, x.after(0, odd, 0), -2);
        }
        for (int what = 0; what <= 4; what++) {
            for (int odd : new int[] {1, 2, -1}) {
                due.is("paper " + odd, x.after(odd, 0, what), -2);
                due.is("week " + odd, x.after(0, odd, what), -2);
            }
        }
    }
}
