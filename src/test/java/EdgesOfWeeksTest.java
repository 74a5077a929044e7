/** Boundary cases of words that are near, of one reading, and of weeks: term 2, and promises 8 to 12. */
final class EdgesOfWeeksTest {
    private static final Due due = new Due();
    private static final int NONE = Edges.NONE;
    /** All ten WORDS one behind the other. */
    private static final String LINE = Edges.chains("0123456789");

    public static void main(String[] args) throws Exception {
        Edges.run(EdgesOfWeeksTest.class, due);
    }

    // ---- term 2: STEPS, TOWARDS ----

    static void term2_steps_to_itself_are_0() {
        ProofLine x = Edges.papers(LINE, "");
        for (int w = 0; w < 10; w++) {
            due.is("in a line " + w, x.steps(0, w, w), 0);
            due.is("alone " + w, x.steps(1, w, w), 0);
        }
    }

    static void term2_steps_are_none_where_none_lead() {
        ProofLine x = Edges.papers(Edges.chains("012", "34"), "");
        due.is("0 to 3", x.steps(0, 0, 3), NONE);
        due.is("3 to 0", x.steps(0, 3, 0), NONE);
        due.is("0 to 9", x.steps(0, 0, 9), NONE);
        due.is("9 to 0", x.steps(0, 9, 0), NONE);
        due.is("8 to 9", x.steps(0, 8, 9), NONE);
        due.is("0 to 1 of none", x.steps(1, 0, 1), NONE);
    }

    static void term2_steps_are_the_fewest() {
        ProofLine x = Edges.papers(LINE, LINE + "near 0 9;");
        due.is("nine", x.steps(0, 0, 9), 9);
        due.is("nine back", x.steps(0, 9, 0), 9);
        due.is("the short way", x.steps(1, 0, 9), 1);
        due.is("round the ring", x.steps(1, 0, 5), 5);
        due.is("round the ring", x.steps(1, 1, 7), 4);
    }

    static void term2_towards_is_the_least_of_several() {
        // From 5 to 9 by 7, by 3, by 8.
        ProofLine x = Edges.papers(Edges.chains("579", "539", "589"), Edges.chains("5179", "5039", "50"));
        due.is("the least", x.towards(0, 5, 9), 3);
        due.is("the least back", x.towards(0, 9, 5), 3);
        due.is("0 before 1", x.towards(1, 5, 9), 0);
    }

    static void term2_towards_has_fewer_steps() {
        // 0 and 1 are NEAR 2, too, but farther from 9; 1 is as far from it as 0 is.
        ProofLine x = Edges.papers(Edges.chains("20", "21", "259", "10"), Edges.chains("579", "37", "35"));
        due.is("5, not 0 nor 1", x.towards(0, 2, 9), 5);
        due.is("2, not 1", x.towards(0, 0, 9), 2);
        due.is("2, not 0", x.towards(0, 1, 9), 2);
        due.is("7, not 3 that is as far", x.towards(1, 5, 9), 7);
    }

    static void term2_towards_none_to_itself_and_where_none_leads() {
        ProofLine x = Edges.papers(Edges.chains("012", "34"));
        for (int w = 0; w < 10; w++) {
            due.is("to itself " + w, x.towards(0, w, w), NONE);
        }
        due.is("no way", x.towards(0, 0, 3), NONE);
        due.is("no way back", x.towards(0, 3, 0), NONE);
        due.is("from a lone one", x.towards(0, 9, 0), NONE);
        due.is("to a lone one", x.towards(0, 0, 9), NONE);
        due.is("to one that is NEAR", x.towards(0, 0, 1), 1);
    }

    // ---- term 2: a READING ----

    /** Behind one READING of the first READER: how many changes, and what stands. */
    private static void reads(String paper, int changes, String stands) {
        ProofLine x = Edges.papers(paper);
        due.is("changes of " + paper, x.reading(0, 0, 0), changes);
        for (int p = 0; p < stands.length(); p++) {
            due.is("PLACE " + p + " of " + paper, x.reading(0, 0, 10 + p), stands.charAt(p) - '0');
        }
    }

    static void term2_a_reading_goes_by_places_from_0_on() {
        reads(Edges.proof("0000") + LINE + Edges.readers(2, "9999"), 2, "1100");
        reads(Edges.proof("0000") + LINE + Edges.readers(2, "-999"), 2, "0110");
    }

    static void term2_a_reading_leaves_where_he_wants_nothing() {
        reads(Edges.proof("333") + LINE + Edges.readers(9, "-5-"), 1, "343");
        reads(Edges.proof("333") + LINE + Edges.readers(9, "---"), 0, "333");
    }

    static void term2_a_reading_leaves_where_what_he_wants_stands() {
        reads(Edges.proof("353") + LINE + Edges.readers(1, "355"), 1, "354");
    }

    static void term2_a_reading_puts_nothing_where_none_is_towards() {
        reads(Edges.proof("300") + Edges.chains("01") + Edges.readers(1, "111"), 1, "310");
        reads(Edges.proof("3") + Edges.readers(1, "4"), 0, "3");
    }

    static void term2_a_reading_goes_one_step_at_a_place() {
        reads(Edges.proof("0") + LINE + Edges.readers(9, "9"), 1, "1");
        reads(Edges.proof("8") + LINE + Edges.readers(9, "9"), 1, "9");
    }

    static void term2_he_changes_as_often_as_he_has_patience_then_nothing_more() {
        String all = Edges.proof("00000000") + LINE;
        for (int patience = 0; patience <= 9; patience++) {
            int changes = Math.min(patience, 8);
            reads(all + Edges.readers(patience, "99999999"), changes, "1".repeat(changes) + "0".repeat(8 - changes));
        }
    }

    static void term2_patience_is_spent_by_changes_alone() {
        // At PLACE 0 there is no way, at 1 stands what he wants, at 2 he wants nothing; 5 is one too many.
        reads(Edges.proof("012222") + Edges.chains("123") + Edges.readers(2, "31-333"), 2, "012332");
    }

    static void term2_patience_0_changes_nothing() {
        reads(Edges.proof("0") + LINE + Edges.readers(0, "1"), 0, "0");
    }

    static void term2_patience_is_of_one_reading() {
        ProofLine x = Edges.weeks(Edges.proof("00") + LINE + Edges.readers(1, "12"), "read 0;read 0;read 0;read 0;");
        int[] first = {0, 1, 1, 1, 1};
        int[] second = {0, 0, 1, 2, 2};
        int[] changes = {0, 1, 2, 3, 3};
        for (int n = 0; n < 5; n++) {
            due.is("PLACE 0 behind " + n, x.state(0, 0, n, 10), first[n]);
            due.is("PLACE 1 behind " + n, x.state(0, 0, n, 11), second[n]);
            due.is("changes behind " + n, x.state(0, 0, n, 0), changes[n]);
        }
    }

    static void term2_he_is_not_to_change_what_he_is_to_leave() {
        ProofLine x = Edges.weeks(Edges.proof("000") + LINE + Edges.readers(1, "999", "999"),
            "stet 0 0;read 0;stet 0 2;read 0;stet 0 1;read 0;read 1;");
        due.is("not PLACE 0, and no patience spent", x.state(0, 0, 2, 10), 0);
        due.is("but PLACE 1", x.state(0, 0, 2, 11), 1);
        due.is("PLACE 1 again", x.state(0, 0, 4, 11), 2);
        due.is("nothing is left to change", x.state(0, 0, 6, 0), 2);
        due.is("the other one may", x.state(0, 0, 7, 10), 1);
        due.is("all told", x.state(0, 0, 7, 0), 3);
    }

    // ---- term 2: a WEEK ----

    static void term2_a_week_begins_as_told_with_nothing_left_and_nothing_printed() {
        ProofLine x = Edges.weeks(Edges.proof("012") + LINE + Edges.readers(9, "999", "---"),
            "print;set 0 5;stet 0 1;join 0 9;part 4 5;read 0;print;", "");
        for (int time = 0; time < 2; time++) {
            for (int week = 0; week < 2; week++) {
                for (int p = 0; p < 3; p++) {
                    due.is("stands", x.state(0, week, 0, 10 + p), p);
                    due.is("printed", x.state(0, week, 0, 20 + p), 10);
                }
                due.is("left", x.state(0, week, 0, 40), 0);
                due.is("changes", x.state(0, week, 0, 0), 0);
                due.is("prints", x.state(0, week, 0, 1), 0);
                due.is("NEAR 0", x.state(0, week, 0, 50), 2);
                due.is("NEAR 4", x.state(0, week, 0, 54), 40);
            }
            due.is("behind all", x.state(0, 0, 7, 0), 2);
            due.is("the PAPER stays as told", x.paper(0, 10), 0);
            due.is("its NEAR stays", x.paper(0, 20), 2);
            due.is("its STEPS stay", x.steps(0, 0, 9), 9);
        }
    }

    private static void stops(String week, int stop) {
        String paper = Edges.proof("01") + Edges.chains("012") + Edges.readers(1, "21", "--");
        ProofLine x = Edges.weeks(paper, week);
        due.is("STOP of " + week, x.stop(0, 0), stop);
        due.is("a STATE at STOP of " + week, x.state(0, 0, stop, 0) >= 0, true);
        due.is("none behind STOP of " + week, x.state(0, 0, stop + 1, 0), -2);
    }

    static void term2_read_can_not_be_without_such_a_reader() {
        stops("read 1;", 1);
        stops("read 2;", 0);
        stops("print;read 0;read 5;print;", 2);
    }

    static void term2_a_read_that_changes_nothing_can_be() {
        stops("read 1;read 1;read 0;read 0;read 0;", 5);
    }

    static void term2_set_can_not_be_without_such_a_place() {
        stops("set 1 5;", 1);
        stops("set 2 5;", 0);
        stops("set 7 0;", 0);
        // Nothing stands there, not 0 and not another WORD.
        stops("set 2 0;", 0);
    }

    static void term2_set_can_not_be_of_the_word_that_stands_there() {
        stops("set 0 0;", 0);
        stops("set 1 1;", 0);
        stops("set 0 1;set 0 1;", 1);
        stops("set 0 1;set 0 0;set 0 1;", 3);
        stops("read 0;set 0 1;", 1);
        stops("read 0;set 0 0;", 2);
    }

    static void term2_set_may_be_of_a_word_that_is_not_near() {
        stops("set 0 9;set 0 5;", 2);
    }

    static void term2_stet_can_not_be_without_such_a_reader_or_place() {
        stops("stet 1 1;", 1);
        stops("stet 2 1;", 0);
        stops("stet 1 2;", 0);
        stops("stet 5 7;", 0);
    }

    static void term2_stet_can_not_be_twice() {
        stops("stet 0 0;stet 0 0;", 1);
        stops("stet 0 0;stet 0 1;stet 1 0;stet 1 1;stet 1 0;", 4);
        stops("stet 0 1;stet 0 1;", 1);
        stops("stet 1 1;stet 0 1;stet 1 0;stet 1 1;", 3);
        ProofLine x = Edges.weeks(Edges.proof("00000000") + "reader 1 1;".repeat(6), "stet 5 7;stet 5 6;stet 5 7;");
        due.is("the eighth PLACE of the sixth READER", x.stop(0, 0), 2);
    }

    static void term2_join_can_not_be_of_two_that_are_near() {
        stops("join 0 1;", 0);
        stops("join 1 0;", 0);
        stops("join 0 2;join 0 2;", 1);
        stops("join 0 2;join 2 0;", 1);
        stops("join 2 0;part 0 2;join 0 2;", 3);
    }

    static void term2_part_can_not_be_of_two_that_are_not_near() {
        stops("part 0 2;", 0);
        stops("part 8 9;", 0);
        stops("part 0 1;part 0 1;", 1);
        stops("part 1 0;part 0 1;", 1);
        stops("part 0 1;join 1 0;part 0 1;", 3);
    }

    static void term2_print_can_always_be() {
        stops("print;print;print;", 3);
        ProofLine x = Edges.weeks("", "print;");
        due.is("of no PLACES", x.stop(0, 0), 1);
        due.is("once", x.state(0, 0, 1, 1), 1);
    }

    static void term2_stop_is_how_many_there_are_where_all_can_be() {
        stops("", 0);
        stops("print;", 1);
        stops("print;".repeat(40), 40);
    }

    static void term2_stop_is_the_first_that_can_not_be() {
        stops("set 0 5;set 0 5;print;set 0 5;", 1);
        stops("print;".repeat(39) + "read 5;", 39);
    }

    static void term2_near_to_each_other_both_ways_behind_join_and_part() {
        ProofLine x = Edges.weeks(Edges.chains("012"), "join 7 3;part 1 0;");
        due.is("3", x.state(0, 0, 1, 53), 128);
        due.is("7", x.state(0, 0, 1, 57), 8);
        due.is("0", x.state(0, 0, 2, 50), 0);
        due.is("1", x.state(0, 0, 2, 51), 4);
    }

    static void term2_readings_go_by_words_as_they_are_near_then() {
        String paper = Edges.proof("0") + Edges.chains("0123") + Edges.readers(1, "3");
        due.is("as told", Edges.weeks(paper, "read 0;").state(0, 0, 1, 10), 1);
        due.is("joined", Edges.weeks(paper, "join 0 3;read 0;").state(0, 0, 2, 10), 3);
        due.is("joined, the least", Edges.weeks(paper, "join 0 2;read 0;").state(0, 0, 2, 10), 2);
        due.is("parted", Edges.weeks(paper, "part 2 3;read 0;").state(0, 0, 2, 10), 0);
        String back = Edges.proof("2") + Edges.chains("012") + Edges.readers(1, "0");
        due.is("parted behind a reading, to 0", Edges.weeks(back, "read 0;part 1 0;read 0;").state(0, 0, 3, 10), 1);
        due.is("joined behind a reading", Edges.weeks(paper, "read 0;join 1 3;read 0;").state(0, 0, 3, 10), 3);
        due.is("parted behind a reading", Edges.weeks(paper, "read 0;part 1 2;read 0;").state(0, 0, 3, 10), 1);
    }

    static void term2_what_is_printed_is_what_stands_then() {
        ProofLine x = Edges.weeks(Edges.proof("01"), "set 0 5;print;set 0 6;set 1 7;print;set 1 8;");
        int[] printed = {10, 10, 5, 5, 5, 6, 6};
        int[] second = {10, 10, 1, 1, 1, 7, 7};
        int[] prints = {0, 0, 1, 1, 1, 2, 2};
        for (int n = 0; n < 7; n++) {
            due.is("PLACE 0 behind " + n, x.state(0, 0, n, 20), printed[n]);
            due.is("PLACE 1 behind " + n, x.state(0, 0, n, 21), second[n]);
            due.is("how often behind " + n, x.state(0, 0, n, 1), prints[n]);
        }
    }

    static void term2_set_makes_no_change_of_a_reader() {
        ProofLine x = Edges.weeks(Edges.proof("0") + LINE + Edges.readers(1, "2"), "set 0 5;set 0 6;read 0;");
        due.is("none by sets", x.state(0, 0, 2, 0), 0);
        due.is("one by read", x.state(0, 0, 3, 0), 1);
    }

    // ---- promises 8 to 12 ----

    static void promise8_none_where_there_is_none_such_of_either() {
        ProofLine x = Edges.weeks("word 0;", "print;", "");
        Due.text(x, 0, NONE, "");
        due.is("0 0", x.stop(0, 0), 1);
        due.is("1 1", x.stop(1, 1), 0);
        due.is("paper 2", x.stop(2, 0), NONE);
        due.is("week 2", x.stop(0, 2), NONE);
        due.is("paper -1", x.stop(-1, 0), NONE);
        due.is("week -1", x.stop(0, -1), NONE);
        for (int odd : Edges.ODD) {
            due.is("paper " + odd, x.stop(odd, 0), NONE);
            due.is("week " + odd, x.stop(0, odd), NONE);
        }
        due.is("no weeks", Edges.papers("").stop(0, 0), NONE);
        ProofLine y = new ProofLine();
        Due.text(y, 1, NONE, "");
        due.is("no papers", y.stop(0, 0), NONE);
    }

    static void promise9_n_is_0_up_to_stop() {
        ProofLine x = Edges.weeks("word 0;", "print;set 0 1;set 0 1;print;");
        due.is("0", x.state(0, 0, 0, 1), 0);
        due.is("1", x.state(0, 0, 1, 1), 1);
        due.is("STOP", x.state(0, 0, 2, 10), 1);
        due.is("STOP + 1", x.state(0, 0, 3, 10), -2);
        due.is("all", x.state(0, 0, 4, 10), -2);
        due.is("more than all", x.state(0, 0, 5, 10), -2);
        due.is("-1", x.state(0, 0, -1, 10), -2);
        for (int odd : Edges.ODD) {
            due.is("n " + odd, x.state(0, 0, odd, 0), -2);
        }
        x = Edges.weeks("", "");
        due.is("0 of no deeds", x.state(0, 0, 0, 0), 0);
        due.is("1 of no deeds", x.state(0, 0, 1, 0), -2);
        x = Edges.weeks("word 0;", "print;".repeat(40));
        due.is("40", x.state(0, 0, 40, 1), 40);
        due.is("41", x.state(0, 0, 41, 1), -2);
    }

    static void promise9_10_where_nothing_was_printed() {
        ProofLine x = Edges.weeks("word 0;word 5;", "set 0 3;print;");
        due.is("ahead of it", x.state(0, 0, 1, 20), 10);
        due.is("ahead of it", x.state(0, 0, 1, 21), 10);
        due.is("behind it", x.state(0, 0, 2, 20), 3);
        due.is("behind it", x.state(0, 0, 2, 21), 5);
        due.is("no such PLACE", x.state(0, 0, 1, 22), -2);
    }

    /** what of state() and drawn() on a PAPER of two PLACES and one READER: so many there are. */
    static void promise9_minus_2_for_another_what() {
        ProofLine x = Edges.weeks("word 0;word 1;reader 1 1;", "print;");
        for (int what = -20; what < 130; what++) {
            boolean there = what == 0 || what == 1 || what == 10 || what == 11 || what == 20 || what == 21 || what == 30
                || what == 40 || what >= 50 && what < 60;
            due.is("what " + what, x.state(0, 0, 1, what) != -2, there);
        }
        for (int odd : Edges.ODD) {
            due.is("what " + odd, x.state(0, 0, 1, odd), -2);
        }
    }

    static void promise9_eight_places_and_six_readers() {
        ProofLine x = Edges.weeks(Edges.proof("12345678") + "reader 1 1;".repeat(6), "stet 5 7;print;");
        due.is("PLACE 7", x.state(0, 0, 2, 17), 8);
        due.is("no PLACE 8", x.state(0, 0, 2, 18), -2);
        due.is("printed at PLACE 7", x.state(0, 0, 2, 27), 8);
        due.is("no PLACE 8", x.state(0, 0, 2, 28), -2);
        due.is("READER 5", x.state(0, 0, 2, 35), 0);
        due.is("no READER 6", x.state(0, 0, 2, 36), -2);
        due.is("READER 5 is to leave", x.state(0, 0, 2, 45), 128);
        due.is("no READER 6", x.state(0, 0, 2, 46), -2);
    }

    static void promise9_minus_2_where_there_is_none_such_of_either() {
        ProofLine x = Edges.weeks("", "");
        due.is("there", x.state(0, 0, 0, 0), 0);
        for (int odd : Edges.ODD) {
            due.is("paper " + odd, x.state(odd, 0, 0, 0), -2);
            due.is("week " + odd, x.state(0, odd, 0, 0), -2);
        }
        for (int odd : new int[] {1, 2, -1}) {
            due.is("paper " + odd, x.state(odd, 0, 0, 0), -2);
            due.is("week " + odd, x.state(0, odd, 0, 0), -2);
        }
    }

    static void promise10_none_of_no_such_words_or_paper() {
        ProofLine x = Edges.papers(LINE);
        due.is("there", x.steps(0, 9, 0), 9);
        for (int odd : new int[] {10, 11, 20, -1}) {
            due.is("from " + odd, x.steps(0, odd, 0), NONE);
            due.is("to " + odd, x.steps(0, 0, odd), NONE);
            due.is("from and to " + odd, x.steps(0, odd, odd), NONE);
        }
        for (int odd : Edges.ODD) {
            due.is("from " + odd, x.steps(0, odd, 0), NONE);
            due.is("to " + odd, x.steps(0, 0, odd), NONE);
            due.is("from and to " + odd, x.steps(0, odd, odd), NONE);
            due.is("paper " + odd, x.steps(odd, 0, 0), NONE);
        }
        due.is("paper 1", x.steps(1, 0, 0), NONE);
        due.is("paper -1", x.steps(-1, 0, 0), NONE);
    }

    static void promise11_none_of_no_such_words_or_paper() {
        ProofLine x = Edges.papers(LINE);
        due.is("there", x.towards(0, 9, 0), 8);
        for (int odd : new int[] {10, 11, 20, -1}) {
            due.is("from " + odd, x.towards(0, odd, 0), NONE);
            due.is("to " + odd, x.towards(0, 0, odd), NONE);
        }
        for (int odd : Edges.ODD) {
            due.is("from " + odd, x.towards(0, odd, 0), NONE);
            due.is("to " + odd, x.towards(0, 0, odd), NONE);
            due.is("paper " + odd, x.towards(odd, 0, 1), NONE);
        }
        due.is("paper 1", x.towards(1, 0, 1), NONE);
        due.is("paper -1", x.towards(-1, 0, 1), NONE);
    }

    static void promise12_of_a_reader_alone_from_the_proof_as_told() {
        ProofLine x = Edges.papers(Edges.proof("00") + LINE + Edges.readers(1, "10", "2-"));
        for (int time = 0; time < 2; time++) {
            due.is("the second one, as if alone", x.reading(0, 1, 10), 1);
            due.is("CONTENT of all then", x.reading(0, 1, 1), 2);
            due.is("the first one", x.reading(0, 0, 0), 1);
            due.is("the PAPER stays", x.paper(0, 10), 0);
        }
    }

    static void promise12_minus_2_where_there_is_none_such_or_for_another_what() {
        ProofLine x = Edges.papers(Edges.proof("01") + Edges.readers(1, "--", "--"), "word 0;");
        for (int what = -5; what < 40; what++) {
            due.is("what " + what, x.reading(0, 1, what) != -2, what == 0 || what == 1 || what == 10 || what == 11);
        }
        for (int odd : Edges.ODD) {
            due.is("what " + odd, x.reading(0, 0, odd), -2);
            due.is("reader " + odd, x.reading(0, odd, 0), -2);
            due.is("paper " + odd, x.reading(odd, 0, 0), -2);
        }
        due.is("reader 2 of two", x.reading(0, 2, 0), -2);
        due.is("reader -1", x.reading(0, -1, 0), -2);
        due.is("reader 0 of none", x.reading(1, 0, 0), -2);
        due.is("paper 2 of two", x.reading(2, 0, 0), -2);
        due.is("paper -1", x.reading(-1, 0, 0), -2);
        ProofLine y = Edges.papers(Edges.proof("00000009") + "reader 1 1;".repeat(6));
        due.is("PLACE 7 of eight", y.reading(0, 5, 17), 9);
        due.is("PLACE 8 of eight", y.reading(0, 5, 18), -2);
        due.is("reader 6 of six", y.reading(0, 6, 0), -2);
    }
}
