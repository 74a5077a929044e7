/** Boundary cases of content, rounds, order, desks, quarrels, signs, votes, chances: term 3, and promises 13 to 19. */
final class EdgesOfReadersTest {
    private static final Due due = new Due();
    private static final int NONE = Edges.NONE;
    private static final String LINE = Edges.chains("0123456789");
    /** Three WORDS, each NEAR the two others: who READS has his way at once. */
    private static final String THREE = Edges.chains("0120");

    public static void main(String[] args) throws Exception {
        Edges.run(EdgesOfReadersTest.class, due);
    }

    // ---- term 3: CONTENT ----

    static void term3_content_counts_places_where_he_wants_what_stands() {
        String all = Edges.proof("01234567");
        ProofLine x = Edges.weeks(all + Edges.readers(0, "01234567", "--------", "11111111", "0------7"), "");
        int[] content = {8, 0, 1, 2};
        for (int r = 0; r < 4; r++) {
            due.is("READER " + r, x.state(0, 0, 0, 30 + r), content[r]);
        }
        due.is("of all together", x.reading(0, 0, 1), 11);
    }

    static void term3_content_is_0_where_nobody_wants_any_and_without_places() {
        due.is("nothing wanted", Edges.papers("word 0;reader 1 1;").reading(0, 0, 1), 0);
        due.is("no PLACES", Edges.papers("reader 1 1;").reading(0, 0, 1), 0);
    }

    // ---- term 3: ROUNDS ----

    private static void rounds(String paper, int settled, int ring, String last) {
        ProofLine x = Edges.papers(paper);
        due.is("SETTLED of " + paper, x.rounds(0, 0), settled);
        due.is("RING of " + paper, x.rounds(0, 1), ring);
        for (int p = 0; p < last.length(); p++) {
            due.is("LAST " + p + " of " + paper, x.rounds(0, 10 + p), last.charAt(p) - '0');
        }
        due.is("no more PLACES", x.rounds(0, 10 + last.length()), -2);
    }

    static void term3_rounds_settle_at_once_where_nothing_is_changed() {
        rounds("", 0, NONE, "");
        rounds("word 4;", 0, NONE, "4");
        rounds(Edges.proof("4") + LINE + Edges.readers(0, "9"), 0, NONE, "4");
        rounds(Edges.proof("4") + LINE + Edges.readers(1, "4", "4"), 0, NONE, "4");
    }

    static void term3_settled_is_how_many_rounds_are_ahead() {
        rounds(Edges.proof("0") + LINE + Edges.readers(1, "1"), 1, NONE, "1");
        rounds(Edges.proof("0") + LINE + Edges.readers(1, "2"), 2, NONE, "2");
        rounds(Edges.proof("0") + LINE + Edges.readers(1, "9"), 9, NONE, "9");
        rounds(Edges.proof("0") + LINE + Edges.readers(1, "9", "9"), 5, NONE, "9");
    }

    static void term3_a_ring_back_to_what_was_at_first() {
        // The one goes from 0 to 1, the other one back: it is changed, and stands as at first.
        rounds(Edges.proof("0") + LINE + Edges.readers(1, "3", "0"), NONE, 1, "0");
        // By the middle 0: from 1 to 0, 3, 0; then to 2, 0, 1.
        rounds(Edges.proof("1") + Edges.chains("30", "02", "01") + Edges.readers(2, "2", "3", "1"), NONE, 2, "1");
    }

    static void term3_a_ring_back_to_what_was_behind_an_earlier_round() {
        rounds(Edges.proof("0") + LINE + Edges.readers(2, "0", "1") + "near 5 7;", NONE, 1, "1");
        // By the middle 1: behind the rounds stand 3, 1, 3, never 2 as at first.
        rounds(Edges.proof("2") + Edges.chains("01", "31", "21") + Edges.readers(1, "2", "0", "3"), NONE, 2, "3");
    }

    static void term3_a_round_that_undoes_its_changes_has_changed() {
        rounds(Edges.proof("0") + THREE + Edges.readers(1, "1", "0"), NONE, 1, "0");
    }

    /** Seven PLACES to go on to 9, one step a round, so many steps in all (54 to 63). */
    private static String slow(int steps, String eighth) {
        return Edges.proof((63 - steps) + "000000" + eighth) + LINE;
    }

    static void term3_rounds_settle_within_60_rounds() {
        rounds(slow(58, "") + Edges.readers(1, "9999999"), 58, NONE, "9999999");
        rounds(slow(59, "") + Edges.readers(1, "9999999"), 59, NONE, "9999999");
    }

    static void term3_neither_behind_60_rounds() {
        rounds(slow(60, "") + Edges.readers(1, "9999999"), NONE, NONE, "9999999");
        rounds(slow(61, "") + Edges.readers(1, "9999999"), NONE, NONE, "9999998");
        rounds(slow(63, "") + Edges.readers(1, "9999999"), NONE, NONE, "9999996");
    }

    static void term3_a_ring_is_known_within_60_rounds() {
        // Two quarrel at the eighth PLACE for ever; behind so many rounds all else stands.
        String[] all = {"9999999", "-------9", "-------0"};
        rounds(slow(58, "0") + Edges.readers(1, all), NONE, 1, "99999990");
        rounds(slow(59, "0") + Edges.readers(1, all), NONE, 1, "99999990");
        rounds(slow(60, "0") + Edges.readers(1, all), NONE, NONE, "99999990");
    }

    static void term3_rounds_begin_with_the_proof_as_told() {
        ProofLine x = Edges.weeks(Edges.proof("0") + LINE + Edges.readers(1, "3"), "set 0 9;part 0 1;");
        due.is("SETTLED", x.rounds(0, 0), 3);
        x.state(0, 0, 2, 0);
        due.is("SETTLED", x.rounds(0, 0), 3);
        due.is("LAST", x.rounds(0, 10), 3);
        due.is("the PAPER stays", x.paper(0, 10), 0);
    }

    static void promise13_minus_2_where_there_is_none_such_or_for_another_what() {
        ProofLine x = Edges.papers("word 0;word 1;");
        for (int what = -5; what < 40; what++) {
            due.is("what " + what, x.rounds(0, what) != -2, what == 0 || what == 1 || what == 10 || what == 11);
        }
        for (int odd : Edges.ODD) {
            due.is("what " + odd, x.rounds(0, odd), -2);
            due.is("paper " + odd, x.rounds(odd, 0), -2);
        }
        due.is("paper 1 of one", x.rounds(1, 0), -2);
        due.is("paper -1", x.rounds(-1, 0), -2);
        due.is("PLACE 7 of eight", Edges.papers(Edges.proof("00000009")).rounds(0, 17), 9);
        due.is("PLACE 8 of eight", Edges.papers(Edges.proof("00000009")).rounds(0, 18), -2);
    }

    // ---- term 3: ORDER ----

    private static void order(String paper, int much, int... row) {
        ProofLine x = Edges.papers(paper);
        due.is("how much, " + paper, x.order(0, NONE), much);
        for (int k = 0; k < row.length; k++) {
            due.is("the " + k + "th of " + paper, x.order(0, k), row[k]);
        }
        due.is("not so many, " + paper, x.order(0, row.length), NONE);
        due.is("-2, " + paper, x.order(0, -2), NONE);
    }

    static void term3_order_is_the_first_row_by_numbers() {
        order(Edges.proof("0") + Edges.readers(1, "-", "-", "-"), 0, 0, 1, 2);
        order(Edges.proof("0") + Edges.readers(0, "0", "0"), 2, 0, 1);
        // The first two want 2, by 1; the third one undoes a step: best he READS first, then 0 ahead of 1.
        order(Edges.proof("0") + LINE + Edges.readers(1, "2", "2", "0"), 2, 2, 0, 1);
    }

    static void term3_order_may_be_the_last_row() {
        // 1 must READ ahead of 0, 2 ahead of both: a fourth one without patience wants the same as the later ones.
        order(Edges.proof("000") + THREE + Edges.readers(9, "1-1", "21-", "-22") + Edges.reader(3, 0, 1, "111"),
            6, 2, 1, 0, 3);
        order(Edges.proof("0") + THREE + Edges.readers(1, "2", "1") + Edges.reader(2, 0, 1, "2"), 2, 1, 0, 2);
    }

    static void term3_order_may_be_the_second_row() {
        // 1 is a step ahead of 0 on his way, and comes back.
        order(Edges.proof("0") + LINE + Edges.readers(1, "0", "2"), 1, 1, 0);
        // The last row but the first one by numbers is no better than it.
        order(Edges.proof("0") + THREE + Edges.readers(1, "1", "2"), 1, 0, 1);
    }

    static void term3_order_of_six_may_be_any_row() {
        // At each PLACE of the first four p must READ behind p + 1, as 5 wants it, who has no patience.
        order(Edges.proof("0000") + THREE + Edges.readers(9, "1---", "21--", "-21-", "--21", "---2")
            + Edges.reader(5, 0, 1, "1111"), 8, 4, 3, 2, 1, 0, 5);
    }

    static void term3_order_of_no_readers_and_of_one() {
        order("", 0);
        order("word 3;", 0);
        order(Edges.proof("0") + LINE + Edges.readers(1, "1"), 1, 0);
    }

    static void term3_order_of_six() {
        order("reader 1 1;".repeat(6), 0, 0, 1, 2, 3, 4, 5);
    }

    static void term3_all_read_once_each() {
        order(Edges.proof("0") + LINE + Edges.readers(1, "2"), 0, 0);
        order(Edges.proof("0") + LINE + Edges.readers(1, "2", "2"), 2, 0, 1);
    }

    static void promise14_none_where_there_are_not_so_many_or_none_such() {
        ProofLine x = Edges.papers("reader 1 1;reader 1 1;");
        due.is("the last", x.order(0, 1), 1);
        due.is("not so many", x.order(0, 2), NONE);
        for (int odd : Edges.ODD) {
            due.is("k " + odd, x.order(0, odd), NONE);
            due.is("paper " + odd, x.order(odd, NONE), NONE);
        }
        due.is("paper 1 of one", x.order(1, NONE), NONE);
        due.is("paper -1", x.order(-1, NONE), NONE);
    }

    // ---- term 3: DESKS ----

    private static String days(int... days) {
        StringBuilder s = new StringBuilder();
        for (int d : days) {
            s.append("reader 0 ").append(d).append(";");
        }
        return s.toString();
    }

    private static void desks(String paper, int n, int soonest, int... row) {
        ProofLine x = Edges.papers(paper);
        due.is("DAYS at " + n + ", " + paper, x.desks(0, n, NONE), soonest);
        for (int k = 0; k < row.length; k++) {
            due.is("desk of " + k + " at " + n + ", " + paper, x.desks(0, n, k), row[k]);
        }
        due.is("not so many at " + n, x.desks(0, n, row.length), NONE);
        due.is("-2 at " + n, x.desks(0, n, -2), NONE);
    }

    static void term3_desks_of_1_all_behind_each_other() {
        desks(days(9, 1, 3), 1, 13, 0, 0, 0);
        desks(days(9, 9, 9, 9, 9, 9), 1, 54, 0, 0, 0, 0, 0, 0);
    }

    static void term3_desks_soonest_and_the_first_row_by_numbers() {
        desks(days(9, 1), 2, 9, 0, 1);
        desks(days(1, 1, 9), 2, 9, 0, 0, 1);
        desks(days(3, 3, 2, 2, 2), 2, 6, 0, 0, 1, 1, 1);
        desks(days(9, 1, 1, 1), 2, 9, 0, 1, 1, 1);
        desks(days(2, 2), 2, 2, 0, 1);
    }

    static void term3_desks_of_3() {
        desks(days(9, 9, 9, 9, 9, 9), 3, 18, 0, 0, 1, 1, 2, 2);
        desks(days(1, 1, 9), 3, 9, 0, 0, 1);
        desks(days(4, 4, 4), 3, 4, 0, 1, 2);
        desks(days(5, 5, 4, 3, 3, 3), 3, 8, 0, 1, 2, 0, 1, 2);
    }

    static void term3_desks_may_be_more_than_readers() {
        desks(days(5), 3, 5, 0);
        desks(days(5, 5), 3, 5, 0, 1);
        for (int n = 1; n <= 3; n++) {
            desks("", n, 0);
        }
    }

    static void promise15_none_where_there_are_not_so_many_another_n_or_none_such() {
        ProofLine x = Edges.papers(days(2, 3));
        due.is("0 desks", x.desks(0, 0, NONE), NONE);
        due.is("4 desks", x.desks(0, 4, NONE), NONE);
        due.is("-1 desks", x.desks(0, -1, NONE), NONE);
        due.is("0 desks, k 0", x.desks(0, 0, 0), NONE);
        due.is("4 desks, k 0", x.desks(0, 4, 0), NONE);
        due.is("k 1", x.desks(0, 3, 1), 1);
        due.is("k 2", x.desks(0, 3, 2), NONE);
        for (int odd : Edges.ODD) {
            due.is("n " + odd, x.desks(0, odd, NONE), NONE);
            due.is("k " + odd, x.desks(0, 1, odd), NONE);
            due.is("paper " + odd, x.desks(odd, 1, NONE), NONE);
        }
        due.is("paper 1 of one", x.desks(1, 1, NONE), NONE);
        due.is("paper -1", x.desks(-1, 1, NONE), NONE);
    }

    // ---- term 3: QUARREL ----

    /** Of the first two READERS, from the first one's side. */
    private static void quarrel(String paper, int n, int much, int first) {
        ProofLine x = Edges.papers(paper);
        due.is("QUARREL of " + n + ", " + paper, x.quarrel(0, 0, 1, n, false), much);
        due.is("first of " + n + ", " + paper, x.quarrel(0, 0, 1, n, true), first);
    }

    static void term3_quarrel_of_0_is_as_it_stands() {
        quarrel(Edges.proof("00") + LINE + Edges.readers(1, "00", "0-"), 0, 1, NONE);
        quarrel(Edges.proof("00") + LINE + Edges.readers(1, "11", "0-"), 0, -1, NONE);
    }

    static void term3_quarrel_by_turns_the_first_one_first_n_times_in_all() {
        // The first one has two PLACES to change, the other one none.
        String one = Edges.proof("00") + THREE + Edges.readers(1, "11", "--");
        int[] much = {0, 1, 1, 2, 2};
        for (int n = 1; n <= 4; n++) {
            quarrel(one, n, much[n], 0);
        }
        String other = Edges.proof("00") + THREE + Edges.readers(1, "--", "11");
        int[] less = {0, 0, -1, -1, -2};
        for (int n = 1; n <= 4; n++) {
            quarrel(other, n, less[n], 8);
        }
        // Who has the last turn has his way.
        String both = Edges.proof("0") + THREE + Edges.readers(1, "1", "0");
        quarrel(both, 1, 1, 0);
        quarrel(both, 2, -1, 0);
        quarrel(both, 3, 1, 0);
        quarrel(both, 4, -1, 0);
    }

    static void term3_quarrel_has_patience_aside() {
        quarrel(Edges.proof("00") + THREE + Edges.readers(0, "11", "--"), 1, 1, 0);
        quarrel(Edges.proof("00") + THREE + Edges.readers(0, "11", "--"), 3, 2, 0);
    }

    static void term3_quarrel_goes_one_step_a_turn() {
        String far = Edges.proof("0") + LINE + Edges.readers(9, "2", "-");
        quarrel(far, 1, 0, 0);
        quarrel(far, 2, 0, 0);
        quarrel(far, 3, 1, 0);
    }

    static void term3_quarrel_nothing_may_be_best() {
        // On his way to 2 he would pass by 1, which the other one wants.
        String by = Edges.proof("0") + LINE + Edges.readers(1, "2", "1");
        quarrel(by, 1, 0, 8);
        quarrel(by, 2, -1, 0);
        quarrel(by, 3, 1, 0);
        // The other one would have a turn for another PLACE only if there were one more.
        quarrel(Edges.proof("00") + LINE + Edges.readers(1, "2-", "11"), 1, 0, 8);
    }

    static void term3_quarrel_8_where_he_can_change_nothing() {
        quarrel(Edges.proof("0") + LINE + Edges.readers(1, "0", "-"), 1, 1, 8);
        quarrel(Edges.proof("0") + Edges.readers(1, "1", "-"), 4, 0, 8);
        quarrel("reader 1 1;reader 1 1;", 1, 0, 8);
        quarrel("reader 1 1;reader 1 1;", 4, 0, 8);
    }

    static void term3_quarrel_the_least_place_that_is_best() {
        quarrel(Edges.proof("000") + THREE + Edges.readers(1, "-11", "---"), 1, 1, 1);
        quarrel(Edges.proof("000") + LINE + Edges.readers(1, "211", "---"), 1, 1, 1);
        // As good as nothing, but a PLACE is less than 8.
        quarrel(Edges.proof("00") + LINE + Edges.readers(1, "-2", "--"), 1, 0, 1);
        // At the last PLACE he takes one from the other, too.
        quarrel(Edges.proof("00000000") + THREE + Edges.readers(1, "11111111", "-------0"), 1, 1, 7);
    }

    static void term3_quarrel_the_other_one_wants_it_least() {
        // Each has a PLACE to change; the other one then has one more.
        quarrel(Edges.proof("00") + THREE + Edges.readers(1, "1-", "-1"), 2, 0, 0);
        // The other one, at 0, wants to put 2 where the first puts 1.
        quarrel(Edges.proof("00") + THREE + Edges.readers(1, "11", "2-"), 2, 0, 1);
    }

    static void promise16_minus_99_for_another_n_no_two_or_none_such() {
        ProofLine x = Edges.papers(Edges.readers(1, "", ""), "reader 1 1;");
        for (boolean first : new boolean[] {false, true}) {
            due.is("n 4", x.quarrel(0, 0, 1, 4, first), first ? 8 : 0);
            due.is("n 0", x.quarrel(0, 1, 0, 0, first), first ? NONE : 0);
            due.is("n 5", x.quarrel(0, 0, 1, 5, first), -99);
            due.is("n -1", x.quarrel(0, 0, 1, -1, first), -99);
            due.is("one and the same", x.quarrel(0, 0, 0, 1, first), -99);
            due.is("one and the same", x.quarrel(0, 1, 1, 0, first), -99);
            due.is("reader 2 of two", x.quarrel(0, 2, 0, 1, first), -99);
            due.is("reader 2 of two", x.quarrel(0, 0, 2, 1, first), -99);
            due.is("reader -1", x.quarrel(0, -1, 0, 1, first), -99);
            due.is("reader -1", x.quarrel(0, 0, -1, 1, first), -99);
            due.is("n 0, reader -1", x.quarrel(0, 0, -1, 0, first), -99);
            due.is("one READER alone", x.quarrel(1, 0, 1, 1, first), -99);
            due.is("paper 2 of two", x.quarrel(2, 0, 1, 1, first), -99);
            due.is("paper -1", x.quarrel(-1, 0, 1, 1, first), -99);
            for (int odd : Edges.ODD) {
                due.is("n " + odd, x.quarrel(0, 0, 1, odd, first), -99);
                due.is("a " + odd, x.quarrel(0, odd, 1, 1, first), -99);
                due.is("b " + odd, x.quarrel(0, 0, odd, 1, first), -99);
                due.is("paper " + odd, x.quarrel(odd, 0, 1, 1, first), -99);
            }
        }
    }

    // ---- term 3: SIGNS ----

    private static void signs(String paper, int many, int which) {
        ProofLine x = Edges.papers(paper);
        due.is("SIGNS, how many, " + paper, x.signs(0, false), many);
        due.is("SIGNS, which, " + paper, x.signs(0, true), which);
    }

    static void term3_signs_none_where_two_want_the_same_everywhere() {
        signs(Edges.proof("00") + Edges.readers(1, "12", "12"), NONE, NONE);
        signs(Edges.proof("00") + Edges.readers(1, "--", "--"), NONE, NONE);
        signs(Edges.proof("00") + Edges.readers(1, "12", "13", "12"), NONE, NONE);
        signs("reader 1 1;reader 1 1;", NONE, NONE);
    }

    static void term3_signs_are_no_places_where_there_are_no_two() {
        signs(Edges.proof("00") + Edges.readers(1, "12"), 0, 0);
        signs(Edges.proof("00"), 0, 0);
        signs("", 0, 0);
        signs("reader 1 1;", 0, 0);
    }

    static void term3_signs_nothing_is_one_of_unlike_things() {
        signs(Edges.proof("00") + Edges.readers(1, "1-", "11"), 1, 2);
        signs(Edges.proof("00") + Edges.readers(1, "--", "-0"), 1, 2);
    }

    static void term3_signs_are_the_fewest_and_of_several_the_least() {
        signs(Edges.proof("000") + Edges.readers(1, "-11", "-22"), 1, 2);
        // 0 and 1 together would do and are a lesser number, but 2 does alone.
        signs(Edges.proof("000") + Edges.readers(1, "111", "122", "213"), 1, 4);
        signs(Edges.proof("0000") + Edges.readers(1, "1111", "1212", "2111", "2212"), 2, 3);
        // Three are needed: each PLACE tells one from the READER who wants nothing.
        signs(Edges.proof("00000000") + Edges.readers(1, "--------", "-1------", "---1----", "------11"), 3, 74);
    }

    static void promise17_none_where_there_is_none_such() {
        ProofLine x = Edges.papers("");
        for (int odd : Edges.ODD) {
            due.is("paper " + odd, x.signs(odd, false), NONE);
            due.is("paper " + odd, x.signs(odd, true), NONE);
        }
        due.is("paper 1 of one", x.signs(1, false), NONE);
        due.is("paper 1 of one", x.signs(1, true), NONE);
        due.is("paper -1", x.signs(-1, true), NONE);
    }

    // ---- term 3: VOTE ----

    static void term3_vote_none_where_nobody_wants_any() {
        due.is("nobody", Edges.papers(Edges.proof("50") + Edges.readers(1, "-1", "-1")).vote(0, 0), NONE);
        due.is("no READERS", Edges.papers("word 5;").vote(0, 0), NONE);
    }

    static void term3_vote_of_several_the_least() {
        due.is("two", Edges.papers(Edges.proof("5") + Edges.readers(1, "9", "3")).vote(0, 0), 3);
        due.is("0", Edges.papers(Edges.proof("5") + Edges.readers(1, "9", "0", "5")).vote(0, 0), 0);
        due.is("two of two", Edges.papers(Edges.proof("5") + Edges.readers(1, "9", "3", "1", "9", "3")).vote(0, 0), 3);
    }

    static void term3_vote_is_what_most_want_there() {
        ProofLine x = Edges.papers(Edges.proof("55") + Edges.readers(1, "31", "91", "92", "-1"));
        due.is("9 of two", x.vote(0, 0), 9);
        due.is("1 of three", x.vote(0, 1), 1);
        x = Edges.papers(Edges.proof("5") + Edges.readers(1, "-", "-", "-", "7"));
        due.is("nothing is not counted", x.vote(0, 0), 7);
    }

    static void promise18_none_where_there_is_none_such_of_either() {
        ProofLine x = Edges.papers(Edges.proof("0") + Edges.readers(1, "1"));
        due.is("there", x.vote(0, 0), 1);
        due.is("PLACE 1 of one", x.vote(0, 1), NONE);
        due.is("PLACE -1", x.vote(0, -1), NONE);
        due.is("paper 1 of one", x.vote(1, 0), NONE);
        due.is("paper -1", x.vote(-1, 0), NONE);
        for (int odd : Edges.ODD) {
            due.is("place " + odd, x.vote(0, odd), NONE);
            due.is("paper " + odd, x.vote(odd, 0), NONE);
        }
    }

    // ---- term 3: COME ----

    private static void come(int readers, int p, int n, long over, long under) {
        ProofLine x = Edges.papers("reader 1 1;".repeat(readers));
        due.is("N of " + readers + " " + p + " " + n, x.come(0, p, n, false), over);
        due.is("D of " + readers + " " + p + " " + n, x.come(0, p, n, true), under);
    }

    static void term3_come_of_0_weeks() {
        come(1, 5, 0, 0, 1);
        come(6, 10, 0, 0, 1);
        come(1, 0, 0, 0, 1);
        come(0, 5, 0, 1, 1);
    }

    static void term3_come_of_p_0_and_10() {
        come(1, 0, 3, 0, 1);
        come(6, 0, 1, 0, 1);
        come(1, 10, 1, 1, 1);
        come(6, 10, 3, 1, 1);
    }

    static void term3_come_without_readers_all_have() {
        for (int p = 0; p <= 10; p++) {
            for (int n = 0; n <= 3; n++) {
                come(0, p, n, 1, 1);
            }
        }
    }

    static void term3_come_in_least_terms() {
        come(1, 5, 1, 1, 2);
        come(2, 5, 1, 1, 4);
        come(1, 2, 1, 1, 5);
        come(1, 4, 2, 16, 25);
        come(1, 5, 3, 7, 8);
        come(2, 6, 2, 441, 625);
        come(1, 9, 2, 99, 100);
    }

    static void term3_come_of_the_most_that_may_be() {
        come(6, 1, 3, 396109944105121L, 1000000000000000000L);
        come(6, 9, 3, 994014980014994001L, 1000000000000000000L);
    }

    static void promise19_none_of_other_numbers_or_none_such() {
        ProofLine x = Edges.papers("reader 1 1;");
        for (boolean under : new boolean[] {false, true}) {
            due.is("p 10", x.come(0, 10, 3, under), 1);
            due.is("p 0", x.come(0, 0, 1, under), under ? 1 : 0);
            due.is("p 11", x.come(0, 11, 1, under), NONE);
            due.is("p -1", x.come(0, -1, 1, under), NONE);
            due.is("n 4", x.come(0, 5, 4, under), NONE);
            due.is("n -1", x.come(0, 5, -1, under), NONE);
            due.is("paper 1 of one", x.come(1, 5, 1, under), NONE);
            due.is("paper -1", x.come(-1, 5, 1, under), NONE);
            for (int odd : Edges.ODD) {
                due.is("p " + odd, x.come(0, odd, 1, under), NONE);
                due.is("n " + odd, x.come(0, 5, odd, under), NONE);
                due.is("paper " + odd, x.come(odd, 5, 1, under), NONE);
            }
        }
    }
}
