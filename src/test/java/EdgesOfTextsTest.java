/** Boundary cases of texts: term 1, and promises 1 to 7, 20, 32. */
final class EdgesOfTextsTest {
    private static final Due due = new Due();
    private static final int NONE = Edges.NONE;
    private static final int PAPER = 0;
    private static final int WEEK = 1;
    private static final int LOG = 2;

    public static void main(String[] args) throws Exception {
        Edges.run(EdgesOfTextsTest.class, due);
    }

    private static void good(int sort, String text) {
        fault(sort, text, 0, NONE);
    }

    private static void fault(int sort, String text, int fault, int place) {
        ProofLine x = new ProofLine();
        due.is("text «" + text + "»", Due.text(x, sort, NONE, text), fault == 0 ? 0 : NONE);
        due.is("FAULT of «" + text + "»", x.fault(0), fault);
        due.is("place of «" + text + "»", x.fault(1), place);
        due.is("count behind «" + text + "»", x.count(sort), fault == 0 ? 1 : 0);
    }

    // ---- term 1: what is at most ----

    static void term1_words_of_a_paper_are_0_to_9() {
        good(PAPER, "word 0;word 9;");
        fault(PAPER, "word 10;", 2, 5);
        fault(PAPER, "word 99;", 2, 5);
        good(PAPER, "near 0 9;near 9 0;near 8 9;");
        fault(PAPER, "near 10 0;", 2, 5);
        fault(PAPER, "near 0 10;", 2, 7);
        good(PAPER, "word 0;reader 1 1;wants 0 0 0;wants 0 0 9;");
        fault(PAPER, "word 0;reader 1 1;wants 0 0 10;", 2, 28);
        due.is("9 stands", Edges.papers("word 9;").paper(0, 10), 9);
    }

    static void term1_words_of_a_week_are_0_to_9() {
        good(WEEK, "set 0 0;set 0 9;join 0 9;join 9 0;part 0 9;part 9 0;");
        fault(WEEK, "set 0 10;", 2, 6);
        fault(WEEK, "join 10 0;", 2, 5);
        fault(WEEK, "join 0 10;", 2, 7);
        fault(WEEK, "part 10 0;", 2, 5);
        fault(WEEK, "part 0 10;", 2, 7);
    }

    static void term1_words_of_a_log_are_0_to_9() {
        good(LOG, "was 0 0;was 0 9;");
        fault(LOG, "was 0 10;", 2, 6);
    }

    static void term1_places_are_at_most_8() {
        good(PAPER, "word 1;".repeat(8));
        due.is("eight", Edges.papers("word 1;".repeat(8)).paper(0, 0), 8);
        fault(PAPER, "word 1;".repeat(9), 3, 56);
    }

    static void term1_readers_are_at_most_6() {
        good(PAPER, "reader 1 1;".repeat(6));
        due.is("six", Edges.papers("reader 1 1;".repeat(6)).paper(0, 1), 6);
        fault(PAPER, "reader 1 1;".repeat(7), 3, 66);
    }

    static void term1_patience_is_0_to_9() {
        due.is("0", Edges.papers("reader 0 1;").paper(0, 30), 0);
        due.is("9", Edges.papers("reader 9 1;").paper(0, 30), 9);
        fault(PAPER, "reader 10 1;", 2, 7);
    }

    static void term1_days_are_1_to_9() {
        due.is("1", Edges.papers("reader 1 1;").paper(0, 40), 1);
        due.is("9", Edges.papers("reader 1 9;").paper(0, 40), 9);
        fault(PAPER, "reader 1 0;", 2, 9);
        fault(PAPER, "reader 1 00;", 2, 9);
        fault(PAPER, "reader 1 10;", 2, 9);
    }

    static void term1_a_reader_wants_none_at_first() {
        ProofLine x = Edges.papers(Edges.proof("00000000") + "reader 1 1;".repeat(6));
        for (int r = 0; r < 6; r++) {
            for (int p = 0; p < 8; p++) {
                due.is("reader " + r + " at " + p, x.paper(0, 100 + 10 * r + p), 10);
            }
        }
    }

    static void term1_no_words_are_near_at_first() {
        ProofLine x = Edges.papers("word 0;");
        for (int w = 0; w < 10; w++) {
            due.is("near " + w, x.paper(0, 20 + w), 0);
        }
    }

    static void term1_deeds_are_at_most_40() {
        for (String line : new String[] {"print;", "read 0;", "set 0 1;", "stet 0 1;", "join 0 1;", "part 0 1;"}) {
            good(WEEK, line.repeat(40));
            due.is("forty", Edges.weeks("", line.repeat(40)).deed(0, NONE, 0), 40);
            fault(WEEK, line.repeat(41), 3, 40 * line.length());
        }
    }

    static void term1_facts_are_at_most_8() {
        good(LOG, "was 0 0;".repeat(8));
        due.is("eight", Edges.logs("", "was 0 0;".repeat(8)).fact(0, NONE, 0), 8);
        fault(LOG, "was 0 0;".repeat(9), 3, 64);
    }

    static void term1_near_and_wants_have_no_most() {
        good(PAPER, "near 0 1;".repeat(60));
        good(PAPER, "word 1;reader 1 1;" + "wants 0 0 1;".repeat(48));
    }

    static void term1_the_tape_has_at_most_600_bytes() {
        good(PAPER, " ".repeat(593) + "word 7;");
        due.is("the last bytes are read", Edges.papers(" ".repeat(593) + "word 7;").paper(0, 10), 7);
        fault(PAPER, " ".repeat(594) + "word 7", 1, 600);
        fault(PAPER, "wants 0 0 1;" + " ".repeat(588), 4, 600);
        fault(PAPER, " ".repeat(599) + "!", 1, 599);
    }

    static void term1_papers_weeks_logs_are_at_most_2() {
        ProofLine x = new ProofLine();
        for (int sort = 0; sort < 3; sort++) {
            due.is("first", x.text(sort, NONE), 0);
            due.is("second", x.text(sort, NONE), 1);
            due.is("third", x.text(sort, NONE), -2);
            due.is("two", x.count(sort), 2);
        }
    }

    // ---- term 1: tokens ----

    static void term1_blanks_are_10_and_32_alone() {
        for (int sign = 0; sign < 256; sign++) {
            boolean blank = sign == 10 || sign == 32;
            fault(PAPER, (char) sign + "word 0;", blank ? 0 : 1, blank ? NONE : 0);
            boolean goesOn = sign >= 'a' && sign <= 'z' || sign >= '0' && sign <= '9';
            if (!goesOn) {
                fault(PAPER, "word" + (char) sign + " 0;", blank ? 0 : 1, blank ? NONE : 4);
                fault(PAPER, "word 0" + (char) sign + ";", blank ? 0 : 1, blank ? NONE : sign == ';' ? 7 : 6);
            }
        }
    }

    static void term1_blanks_may_stand_between_any_tokens_and_be_none() {
        good(PAPER, "\n word \n 3 \n ; \n near\n1\n2\n;\n");
        good(PAPER, "word3;near1 2;reader1 1;wants0 0 1;");
        due.is("word3", Edges.papers("word3;").paper(0, 10), 3);
        good(WEEK, "read0;set1 2;stet0 1;join1 2;part1 2;print;print ;\nprint\n;");
        good(LOG, "was0 1;\n\n was 0\n1 ; ");
        good(PAPER, "  \n\n ");
    }

    static void term1_words_are_rows_of_letters_a_to_z() {
        for (char odd : new char[] {'`', '{', '@', '[', 'A', 'Z', '_', '-', (char) 225, (char) 247}) {
            fault(PAPER, "word 0;" + odd, 1, 7);
            fault(PAPER, "wor" + odd + " 0;", 1, 0);
            fault(PAPER, "word" + odd + "0;", 1, 4);
            fault(PAPER, odd + "ord 0;", 1, 0);
        }
        for (char letter = 'a'; letter <= 'z'; letter++) {
            fault(PAPER, "word" + letter + " 0;", 1, 0);
            fault(PAPER, letter + "word 0;", 1, 0);
            fault(LOG, "wa" + letter + " 0 0;", letter == 's' ? 0 : 1, letter == 's' ? NONE : 0);
        }
        for (String other : new String[] {"WORD 0;", "Word 0;", "worD 0;"}) {
            fault(PAPER, other, 1, 0);
        }
    }

    static void term1_numbers_have_1_or_2_digits() {
        good(PAPER, "word 0;word 00;word 9;word 09;");
        due.is("09", Edges.papers("word 09;").paper(0, 10), 9);
        due.is("07 08", Edges.papers("near 07 08;").paper(0, 27), 256);
        fault(PAPER, "word 000;", 1, 5);
        fault(PAPER, "word 001;", 1, 5);
        fault(PAPER, "word 123456789012345;", 1, 5);
        fault(PAPER, "word 4294967296;", 1, 5);
        fault(PAPER, "word /;", 1, 5);
        fault(PAPER, "word :;", 1, 5);
        fault(PAPER, "word 1:;", 1, 6);
        fault(PAPER, "word 1/;", 1, 6);
        fault(WEEK, "read 000;", 1, 5);
        fault(LOG, "was 0 000;", 1, 6);
    }

    static void term1_a_longer_row_of_digits_is_no_token() {
        // Not 12 and 3, nor 1 and 23: the row is one, and no text goes on with its first byte.
        fault(PAPER, "near 123;", 1, 5);
        fault(PAPER, "near 1 234;", 1, 7);
        fault(PAPER, "near 1 2 003;", 1, 9);
        fault(PAPER, "123", 1, 0);
        fault(PAPER, "word 1;003;", 1, 7);
        fault(PAPER, "word 12;word 123;", 1, 13);
    }

    static void term1_tokens_are_as_long_as_they_go() {
        fault(PAPER, "wordword 0;", 1, 0);
        fault(PAPER, "wo rd 0;", 1, 0);
        fault(PAPER, "near 12;", 1, 7);
        fault(PAPER, "near 1\n2;", 0, NONE);
        fault(WEEK, "prints;", 1, 0);
        fault(WEEK, "setstet 0 0;", 1, 0);
        fault(PAPER, "word 1 0;", 1, 7);
        fault(PAPER, "near 1 2word 1;", 1, 8);
        fault(PAPER, "word 1;near 1 0;near 10;", 1, 23);
    }

    static void term1_a_mark_is_one_byte() {
        fault(PAPER, "word 0;;", 1, 7);
        fault(PAPER, ";", 1, 0);
        fault(PAPER, ";word 0;", 1, 0);
        fault(WEEK, "print;;print;", 1, 6);
        fault(WEEK, "print:", 1, 5);
        fault(PAPER, "word 0,", 1, 6);
    }

    // ---- term 1: texts ----

    static void term1_a_text_may_have_no_lines() {
        for (int sort = 0; sort < 3; sort++) {
            good(sort, "");
            good(sort, " ");
            good(sort, "\n");
        }
        ProofLine x = Edges.papers("");
        due.is("no PLACES", x.paper(0, 0), 0);
        due.is("no READERS", x.paper(0, 1), 0);
        due.is("no DEEDS", Edges.weeks("", "").deed(0, NONE, 0), 0);
        due.is("no FACTS", Edges.logs("", "").fact(0, NONE, 0), 0);
    }

    static void term1_each_line_has_its_numbers_not_fewer_not_more() {
        fault(PAPER, "word;", 1, 4);
        fault(PAPER, "word 1 1;", 1, 7);
        fault(PAPER, "near 1;", 1, 6);
        fault(PAPER, "near 1 2 3;", 1, 9);
        fault(PAPER, "reader 1;", 1, 8);
        fault(PAPER, "reader 1 1 1;", 1, 11);
        fault(PAPER, "wants 0 0;", 1, 9);
        fault(PAPER, "wants 0 0 0 0;", 1, 12);
        fault(WEEK, "read;", 1, 4);
        fault(WEEK, "read 0 0;", 1, 7);
        fault(WEEK, "set 0;", 1, 5);
        fault(WEEK, "set 0 0 0;", 1, 8);
        fault(WEEK, "stet 0;", 1, 6);
        fault(WEEK, "stet 0 0 0;", 1, 9);
        fault(WEEK, "join 0;", 1, 6);
        fault(WEEK, "join 0 1 2;", 1, 9);
        fault(WEEK, "part 0;", 1, 6);
        fault(WEEK, "part 0 1 2;", 1, 9);
        fault(WEEK, "print 0;", 1, 6);
        fault(LOG, "was 0;", 1, 5);
        fault(LOG, "was 0 0 0;", 1, 8);
    }

    static void term1_a_line_needs_its_mark() {
        fault(PAPER, "word 1 word 1;", 1, 7);
        fault(PAPER, "near 0 1 near 0 1;", 1, 9);
        fault(WEEK, "print print;", 1, 6);
        fault(WEEK, "read 0 print;", 1, 7);
        fault(LOG, "was 0 0 was 0 0;", 1, 8);
    }

    static void term1_each_sort_has_its_own_words() {
        String[][] lines = {{"word 1;", "near 1 2;", "reader 1 1;", "word 1;reader 1 1;wants 0 0 0;"},
            {"read 0;", "set 0 0;", "stet 0 0;", "join 0 1;", "part 0 1;", "print;"}, {"was 0 0;"}};
        for (int sort = 0; sort < 3; sort++) {
            for (int of = 0; of < 3; of++) {
                for (String line : lines[of]) {
                    fault(sort, line, sort == of ? 0 : 1, sort == of ? NONE : 0);
                }
            }
            for (String odd : new String[] {"a", "wor", "words", "nea", "readers", "want", "wantss", "reads", "se",
                "sets", "ste", "joins", "par", "parts", "prin", "prints", "wa", "wass", "words;"}) {
                fault(sort, odd, 1, 0);
            }
        }
    }

    static void term1_a_word_is_spelt_in_all_its_letters() {
        String[][] lines = {{"word", " 0;"}, {"near", " 0 1;"}, {"reader", " 1 1;"}, {"wants", " 0 0 0;"}};
        spelt(PAPER, lines);
        spelt(WEEK, new String[][] {{"read", " 0;"}, {"set", " 0 0;"}, {"stet", " 0 0;"}, {"join", " 0 1;"},
            {"part", " 0 1;"}, {"print", ";"}});
        spelt(LOG, new String[][] {{"was", " 0 0;"}});
    }

    private static void spelt(int sort, String[][] lines) {
        for (String[] line : lines) {
            for (int i = 0; i < line[0].length(); i++) {
                fault(sort, line[0].substring(0, i) + "x" + line[0].substring(i + 1) + line[1], 1, 0);
            }
            fault(sort, line[0].substring(1) + line[1], 1, 0);
            fault(sort, line[0].substring(0, line[0].length() - 1) + line[1], 1, 0);
        }
    }

    static void term1_a_read_is_0_to_5() {
        good(WEEK, "read 0;read 5;");
        fault(WEEK, "read 6;", 2, 5);
        fault(WEEK, "read 99;", 2, 5);
    }

    static void term1_a_stet_is_a_reader_0_to_5_and_a_place_0_to_7() {
        good(WEEK, "stet 0 0;stet 5 7;");
        fault(WEEK, "stet 6 7;", 2, 5);
        fault(WEEK, "stet 5 8;", 2, 7);
    }

    static void term1_a_set_is_a_place_0_to_7_and_a_word() {
        good(WEEK, "set 0 0;set 7 9;");
        fault(WEEK, "set 8 9;", 2, 4);
        fault(WEEK, "set 7 10;", 2, 6);
    }

    static void term1_a_want_is_a_reader_0_to_5_a_place_0_to_7_and_a_word() {
        String all = Edges.proof("00000000") + "reader 1 1;".repeat(6);
        good(PAPER, all + "wants 0 0 0;wants 5 7 9;");
        fault(PAPER, all + "wants 6 7 9;", 2, 128);
        fault(PAPER, all + "wants 5 8 9;", 2, 130);
        fault(PAPER, all + "wants 5 7 10;", 2, 132);
    }

    static void term1_a_was_is_a_place_0_to_7_and_a_word() {
        good(LOG, "was 0 0;was 7 9;");
        fault(LOG, "was 8 9;", 2, 4);
        fault(LOG, "was 7 10;", 2, 6);
    }

    static void term1_later_wants_of_the_same_two_strike() {
        String all = Edges.proof("000") + "reader 1 1;reader 1 1;";
        ProofLine x = Edges.papers(all + "wants 0 1 4;wants 0 1 5;wants 0 1 3;");
        due.is("the latest", x.paper(0, 101), 3);
        due.is("another PLACE", x.paper(0, 100), 10);
        due.is("another READER", x.paper(0, 111), 10);
        x = Edges.papers(all + "wants 0 1 4;wants 1 1 5;wants 0 2 6;");
        due.is("not struck by another READER's, another PLACE's", x.paper(0, 101), 4);
        due.is("the other READER's", x.paper(0, 111), 5);
        due.is("the other PLACE's", x.paper(0, 102), 6);
    }

    static void term1_all_others_are_further_ones() {
        ProofLine x = Edges.papers("word 3;word 3;word 4;reader 2 2;reader 2 2;near 0 1;near 0 2;near 1 0;near 0 1;");
        due.is("PLACES", x.paper(0, 0), 3);
        due.is("the first stays", x.paper(0, 10), 3);
        due.is("READERS", x.paper(0, 1), 2);
        due.is("NEAR 0", x.paper(0, 20), 6);
        due.is("NEAR 1", x.paper(0, 21), 1);
        x = Edges.weeks("", "print;print;set 0 1;set 0 2;set 0 1;");
        due.is("DEEDS", x.deed(0, NONE, 0), 5);
        due.is("the first set stays", x.deed(0, 2, 2), 1);
        x = Edges.logs("", "was 0 1;was 0 2;was 0 1;");
        due.is("FACTS", x.fact(0, NONE, 0), 3);
        due.is("the first stays", x.fact(0, 0, 1), 1);
    }

    static void term1_wants_may_be_told_ahead_of_reader_and_place() {
        ProofLine x = Edges.papers("wants 1 2 7;reader 1 1;word 0;word 0;reader 1 1;word 0;");
        due.is("wanted", x.paper(0, 112), 7);
    }

    // ---- term 1: FAULTS ----

    static void term1_fault_1_is_ahead_of_all_others_wherever_it_is() {
        fault(PAPER, "word 10;!", 1, 8);
        fault(PAPER, "near 3 3;word", 1, 13);
        fault(PAPER, "word 1;".repeat(9) + "!", 1, 63);
        fault(PAPER, "wants 0 0 0;!", 1, 12);
        fault(PAPER, "word 99 9;", 1, 8);
        fault(WEEK, "print;".repeat(41) + "read 6", 1, 252);
        fault(LOG, "was 8 10;was", 1, 12);
    }

    static void term1_fault_1_is_the_first_one() {
        fault(PAPER, "word 1;! ;", 1, 7);
        fault(PAPER, "word ! word", 1, 5);
        fault(PAPER, "near 1 x 2 y;", 1, 7);
        fault(WEEK, "print;print print 1;", 1, 12);
    }

    static void term1_fault_1_is_at_the_end_where_a_text_breaks_off() {
        fault(PAPER, "word", 1, 4);
        fault(PAPER, "word 1", 1, 6);
        fault(PAPER, "word 1;near", 1, 11);
        fault(PAPER, "wants", 1, 5);
        fault(PAPER, "wants 0", 1, 7);
        fault(PAPER, "wants 0 0", 1, 9);
        fault(PAPER, "wants 0 0 0", 1, 11);
        fault(WEEK, "print", 1, 5);
        fault(WEEK, "read 6", 1, 6);
        fault(LOG, "was", 1, 3);
        // The end is where the tape ends, blanks or not.
        fault(PAPER, "word 1   \n", 1, 10);
        fault(PAPER, "word ", 1, 5);
        // A row of letters that is no word of the text does not break off: no text goes on with it.
        fault(PAPER, "word 1;wor", 1, 7);
    }

    static void term1_fault_2_is_at_the_numbers_first_byte() {
        fault(PAPER, "word  \n 10 ;", 2, 8);
        fault(PAPER, "near 1  12;", 2, 8);
    }

    static void term1_fault_2_of_near_join_part_is_the_second_word_if_it_is_the_first() {
        fault(PAPER, "near 3 3;", 2, 7);
        fault(PAPER, "near 0 00;", 2, 7);
        fault(PAPER, "near 3 03;", 2, 7);
        fault(WEEK, "join 3 3;", 2, 7);
        fault(WEEK, "part 9 9;", 2, 7);
        fault(PAPER, "near 10 10;", 2, 5);
        // No others: a READER's two numbers, a PLACE and a WORD may be the same.
        good(PAPER, "reader 3 3;");
        good(PAPER, "word 0;reader 3 3;wants 0 0 0;");
        good(WEEK, "set 3 3;stet 3 3;");
        good(LOG, "was 3 3;");
    }

    static void term1_of_faults_2_and_3_the_first_by_place() {
        fault(PAPER, "word 10;word 11;", 2, 5);
        fault(PAPER, "reader 10 0;", 2, 7);
        fault(PAPER, "wants 6 8 10;", 2, 6);
        fault(PAPER, "wants 0 8 10;", 2, 8);
        fault(PAPER, "word 10;" + "word 1;".repeat(8), 2, 5);
        fault(PAPER, "word 1;".repeat(9) + "near 3 3;", 3, 56);
        fault(PAPER, "near 3 3;" + "word 1;".repeat(9), 2, 7);
        fault(PAPER, "word 1;".repeat(9) + "reader 1 1;".repeat(7), 3, 56);
        fault(PAPER, "reader 1 1;".repeat(7) + "word 1;".repeat(9), 3, 66);
        fault(WEEK, "print;".repeat(41) + "read 6;", 3, 240);
        fault(WEEK, "read 6;" + "print;".repeat(40), 2, 5);
        fault(LOG, "was 0 0;".repeat(9) + "was 8 0;", 3, 64);
        fault(LOG, "was 8 0;" + "was 0 0;".repeat(8), 2, 4);
    }

    static void term1_fault_3_is_at_the_first_token_of_what_is_too_many() {
        // Also where a NUMBER of that line can't be: the first token is ahead of it.
        fault(PAPER, "word 1;".repeat(8) + " word 10;", 3, 57);
        fault(PAPER, "reader 1 1;".repeat(6) + "\nreader 1 0;", 3, 67);
        fault(WEEK, "print;".repeat(40) + "  read 6;", 3, 242);
        fault(WEEK, "print;".repeat(40) + "join 3 3;", 3, 240);
        fault(LOG, "was 0 0;".repeat(8) + " was 8 0;", 3, 65);
        // Only those that are counted: a line of another sort behind eight PLACES is no fault.
        good(PAPER, "word 1;".repeat(8) + "near 1 2;reader 1 1;wants 0 7 1;");
        good(PAPER, "reader 1 1;".repeat(6) + "word 1;near 1 2;wants 5 0 1;");
    }

    static void term1_a_line_with_a_wrong_number_tells_its_own_all_the_same() {
        // FAULT 2 is met first by place; had the line told nothing, what follows it would be no 9th, 7th, 41st, too.
        fault(PAPER, "word 10;" + "word 1;".repeat(8), 2, 5);
        fault(PAPER, "reader 1 0;" + "reader 1 1;".repeat(6), 2, 9);
        // And FAULTS 4 and 5 are not looked for.
        fault(PAPER, "reader 1 0;wants 0 0 1;", 2, 9);
        fault(PAPER, "word 10;reader 1 1;wants 0 0 1;", 2, 5);
    }

    static void term1_fault_4_is_a_reader_that_is_not_there_at_the_end() {
        fault(PAPER, "word 1;wants 0 0 1;", 4, 19);
        fault(PAPER, "word 1;reader 1 1;wants 1 0 1;", 4, 30);
        good(PAPER, "word 1;reader 1 1;wants 0 0 1;");
        fault(PAPER, "word 1;" + "reader 1 1;".repeat(5) + "wants 5 0 1;", 4, 74);
        good(PAPER, "word 1;" + "reader 1 1;".repeat(6) + "wants 5 0 1;");
        fault(PAPER, "word 1;wants 1 0 1;wants 0 0 1;reader 1 1; \n", 4, 44);
    }

    static void term1_fault_5_is_a_place_that_is_not_there_at_the_end() {
        fault(PAPER, "reader 1 1;wants 0 0 1;", 5, 23);
        fault(PAPER, "word 1;reader 1 1;wants 0 1 1;", 5, 30);
        good(PAPER, "word 1;word 1;reader 1 1;wants 0 1 1;");
        fault(PAPER, Edges.proof("1111111") + "reader 1 1;wants 0 7 1;", 5, 72);
        good(PAPER, Edges.proof("11111111") + "reader 1 1;wants 0 7 1;");
        fault(PAPER, "reader 1 1;wants 0 2 1;wants 0 0 1;word 1;word 1;  ", 5, 51);
    }

    static void term1_fault_4_is_ahead_of_5() {
        fault(PAPER, "wants 0 0 1;", 4, 12);
        // The PLACE that is not there is told of first; still it is 4.
        fault(PAPER, "reader 1 1;wants 0 5 1;wants 3 0 1;word 1;", 4, 42);
    }

    static void term1_faults_4_and_5_only_if_none_is_ahead() {
        fault(PAPER, "wants 0 0 1;word 10;", 2, 17);
        fault(PAPER, "wants 0 0 1;" + "reader 1 1;".repeat(7), 3, 78);
    }

    static void term1_faults_4_and_5_are_of_a_paper_alone() {
        good(WEEK, "read 5;set 7 9;stet 5 7;");
        good(LOG, "was 7 9;");
    }

    // ---- promises 1 to 7, 20, 32 ----

    static void promise1_a_new_object_has_nothing() {
        due.is("the constant NONE", ProofLine.NONE, -1);
        due.is("no FAULT at first", new ProofLine().fault(0), 0);
        due.is("no place at first", new ProofLine().fault(1), NONE);
        ProofLine x = new ProofLine();
        for (int sort = 0; sort < 3; sort++) {
            due.is("count " + sort, x.count(sort), 0);
            due.is("again " + sort, x.again(sort), false);
            due.is("text in the place of one", x.text(sort, 0), -2);
        }
        due.is("the tape is empty", x.end(1), NONE);
        due.is("the tape is empty", x.end(0), 0);
        due.is("no FAULT", x.fault(0), 0);
        due.is("no place", x.fault(1), NONE);
    }

    static void promise2_twenty_bytes_come_behind_of_each_number_the_highest_first() {
        ProofLine x = new ProofLine();
        due.is("20", x.feed(0x776f7264, 0x20333b77, 0x6f726420, 0x343b776f, 0x72642035), 20);
        due.is("40", x.feed(0x3b776f72, 0x64203620, 0x20202020, 0x20202020, 0x2020203b), 40);
        due.is("text", x.text(0, NONE), 0);
        due.is("PLACES", x.paper(0, 0), 4);
        for (int i = 0; i < 4; i++) {
            due.is("WORD " + i, x.paper(0, 10 + i), 3 + i);
        }
        due.is("the tape is empty, and takes twenty", x.feed(0, 0, 0, 0, 0), 20);
    }

    static void promise2_bytes_may_be_any() {
        ProofLine x = new ProofLine();
        due.is("feed", x.feed(0x20202020, 0x202020ff, -1, Edges.MIN, Edges.MAX), 20);
        due.is("text", x.text(0, NONE), NONE);
        due.is("FAULT", x.fault(0), 1);
        due.is("at byte 255", x.fault(1), 7);
    }

    static void promise2_none_and_nothing_comes_if_there_would_be_more_than_600() {
        ProofLine x = new ProofLine();
        for (int i = 1; i <= 30; i++) {
            due.is("feed " + i, x.feed(0x20202020, 0x20202020, 0x20202020, 0x20202020, 0x20202020), 20 * i);
        }
        due.is("no more", x.feed(0x21212121, 0, 0, 0, 0), NONE);
        due.is("nothing came", x.end(601), NONE);
        due.is("600 are there", x.end(600), 600);
        due.is("of 581", x.end(581), 581);
        due.is("601 would be", x.feed(0x21212121, 0, 0, 0, 0), NONE);
        due.is("nothing came", x.end(582), NONE);
        due.is("of 580", x.end(580), 580);
        due.is("600 may be", x.feed(0x20202020, 0x20202020, 0x20202020, 0x20202020, 0x20202020), 600);
        due.is("all are blanks", x.text(0, NONE), 0);
    }

    static void promise3_the_first_n_bytes_alone() {
        ProofLine x = new ProofLine();
        Due.tape(x, "word 1;word 2;word 3;");
        due.is("14", x.end(14), 14);
        due.is("what was behind is gone", x.end(15), NONE);
        due.is("as many as there are", x.end(14), 14);
        due.is("7", x.end(7), 7);
        due.is("bytes come behind the seven", x.feed(0x776f7264, 0x20393b20, 0x20202020, 0x20202020, 0x20202020), 27);
        due.is("text", x.text(0, NONE), 0);
        due.is("two PLACES", x.paper(0, 0), 2);
        due.is("the second", x.paper(0, 11), 9);
    }

    static void promise3_none_if_it_has_not_so_many_or_n_is_below_0() {
        ProofLine x = new ProofLine();
        Due.tape(x, "word 1;");
        for (int odd : new int[] {8, 9, 600, 601, -1, -7, Edges.MIN, Edges.MAX}) {
            due.is("end " + odd, x.end(odd), NONE);
        }
        due.is("the tape is as it was", x.end(7), 7);
        due.is("text", x.text(0, NONE), 0);
        due.is("empty", x.end(0), 0);
        due.is("empty", x.end(1), NONE);
    }

    static void promise3_end_of_0_empties_the_tape() {
        ProofLine x = new ProofLine();
        Due.tape(x, "!");
        due.is("0", x.end(0), 0);
        due.is("nothing is a text", x.text(1, NONE), 0);
    }

    static void promise4_a_further_one_at_none_or_in_the_place_of_one() {
        ProofLine x = Edges.papers("word 1;word 1;", "word 2;");
        due.is("in the place of 0", Due.text(x, 0, 0, "word 3;"), 0);
        due.is("in the place of 1", Due.text(x, 0, 1, "word 4;word 4;"), 1);
        due.is("0", 10 * x.paper(0, 0) + x.paper(0, 10), 13);
        due.is("1", 10 * x.paper(1, 0) + x.paper(1, 10), 24);
        due.is("still two", x.count(0), 2);
        due.is("no weeks by that", x.count(1), 0);
    }

    static void promise4_minus_2_where_there_is_none_such() {
        for (int sort = 0; sort < 3; sort++) {
            ProofLine x = new ProofLine();
            due.is("0 of none", x.text(sort, 0), -2);
            due.is("a first", x.text(sort, NONE), 0);
            due.is("1 of one", x.text(sort, 1), -2);
            due.is("2 of one", x.text(sort, 2), -2);
            for (int odd : Edges.ODD) {
                due.is("at " + odd, x.text(sort, odd), -2);
            }
            due.is("still one", x.count(sort), 1);
            due.is("a second", x.text(sort, NONE), 1);
            due.is("2 of two", x.text(sort, 2), -2);
            due.is("1 of two", x.text(sort, 1), 1);
        }
    }

    static void promise4_minus_2_where_there_are_as_many_as_may_be() {
        ProofLine x = Edges.papers("word 1;", "word 2;");
        due.is("a third", Due.text(x, 0, NONE, "word 3;"), -2);
        due.is("a third with a FAULT", Due.text(x, 0, NONE, "!"), -2);
        due.is("no FAULT", x.fault(0), 0);
        due.is("0 stays", x.paper(0, 10), 1);
        due.is("1 stays", x.paper(1, 10), 2);
        due.is("two", x.count(0), 2);
        due.is("a week may be", Due.text(x, 1, NONE, "print;"), 0);
    }

    static void promise4_minus_2_of_no_such_sort() {
        ProofLine x = Edges.papers("");
        due.is("sort 3", x.text(3, NONE), -2);
        due.is("sort 3 in the place of 0", x.text(3, 0), -2);
        due.is("sort -1", x.text(-1, NONE), -2);
        due.is("sort -1 in the place of 0", x.text(-1, 0), -2);
        for (int odd : Edges.ODD) {
            due.is("sort " + odd, x.text(odd, NONE), -2);
            due.is("sort " + odd + " in the place of 0", x.text(odd, 0), -2);
        }
    }

    static void promise4_the_tape_is_empty_then_in_each_case() {
        ProofLine x = new ProofLine();
        int[][] calls = {{0, NONE, 0}, {0, 5, -2}, {3, NONE, -2}, {-1, 0, -2}, {0, NONE, 1}, {0, NONE, -2}, {0, 1, 1}};
        for (int[] c : calls) {
            Due.tape(x, "word 1;");
            due.is("text " + c[0] + " " + c[1], x.text(c[0], c[1]), c[2]);
            due.is("empty behind " + c[2], x.end(1), NONE);
        }
        Due.tape(x, "word !;");
        due.is("a FAULT", x.text(0, 0), NONE);
        due.is("empty behind a FAULT", x.end(1), NONE);
    }

    static void promise4_minus_2_reads_no_text_and_has_fault_0() {
        ProofLine x = Edges.papers("");
        for (int[] call : new int[][] {{3, NONE}, {0, 1}, {-1, 0}, {1, 0}}) {
            due.is("a FAULT", Due.text(x, 0, 0, "word 10;"), NONE);
            due.is("is told", 10 * x.fault(0) + x.fault(1), 25);
            due.is("-2", Due.text(x, call[0], call[1], "!"), -2);
            due.is("FAULT 0", x.fault(0), 0);
            due.is("place NONE", x.fault(1), NONE);
        }
    }

    static void promise4_a_fault_leaves_all_as_it_was() {
        ProofLine x = Edges.papers("word 5;near 1 2;reader 3 4;wants 0 0 6;");
        Due.text(x, 1, NONE, "set 0 1;");
        Due.text(x, 2, NONE, "was 0 1;");
        due.is("FAULT 2", Due.text(x, 0, 0, "word 6;word 10;"), NONE);
        due.is("FAULT 1", Due.text(x, 0, 0, "word 6;word"), NONE);
        due.is("FAULT 4", Due.text(x, 0, 0, "wants 0 0 1;"), NONE);
        due.is("FAULT of a further one", Due.text(x, 0, NONE, "!"), NONE);
        due.is("FAULT of a WEEK", Due.text(x, 1, 0, "print;read 6;"), NONE);
        due.is("FAULT of a LOG", Due.text(x, 2, 0, "was 1 1;was 8 0;"), NONE);
        due.is("one PAPER", x.count(0), 1);
        due.is("its WORD", x.paper(0, 10), 5);
        due.is("one PLACE", x.paper(0, 0), 1);
        due.is("NEAR", x.paper(0, 21), 4);
        due.is("WANTS", x.paper(0, 100), 6);
        due.is("its DEED", x.deed(0, 0, 0), 1);
        due.is("one DEED", x.deed(0, NONE, 0), 1);
        due.is("its FACT", x.fact(0, 0, 0), 0);
        due.is("one FACT", x.fact(0, NONE, 0), 1);
    }

    static void promise4_in_the_place_of_one_nothing_of_that_one_stays() {
        ProofLine x = Edges.papers(Edges.proof("12345678") + Edges.chains("0123") + Edges.readers(1, "9", "9"));
        Due.text(x, 1, NONE, "set 0 1;set 0 2;");
        Due.text(x, 2, NONE, "was 0 1;was 0 2;");
        due.is("order of two", x.order(0, 1), 1);
        due.is("text", Due.text(x, 0, 0, "word 9;reader 1 1;"), 0);
        due.is("PLACES", x.paper(0, 0), 1);
        due.is("no second PLACE", x.paper(0, 11), NONE);
        due.is("READERS", x.paper(0, 1), 1);
        due.is("none NEAR", x.paper(0, 21), 0);
        due.is("nothing wanted", x.paper(0, 100), 10);
        due.is("no STEPS", x.steps(0, 0, 1), NONE);
        due.is("no second in ORDER", x.order(0, 1), NONE);
        due.is("a WEEK", Due.text(x, 1, 0, "print;"), 0);
        due.is("its DEEDS", x.deed(0, NONE, 0), 1);
        due.is("its numbers", x.deed(0, 0, 1), NONE);
        due.is("a LOG", Due.text(x, 2, 0, ""), 0);
        due.is("its FACTS", x.fact(0, NONE, 0), 0);
    }

    static void promise5_of_the_latest_text() {
        ProofLine x = new ProofLine();
        due.is("a FAULT", Due.text(x, 0, NONE, "word 1;word 11;"), NONE);
        due.is("2", x.fault(0), 2);
        due.is("its place", x.fault(1), 12);
        x.feed(0, 0, 0, 0, 0);
        x.end(0);
        due.is("stays, whatever the tape is", x.fault(0), 2);
        due.is("stays, whatever the tape is", x.fault(1), 12);
        due.is("another", Due.text(x, 1, NONE, "!"), NONE);
        due.is("1", x.fault(0), 1);
        due.is("its place", x.fault(1), 0);
        due.is("a good one", Due.text(x, 2, NONE, ""), 0);
        due.is("0 without", x.fault(0), 0);
        due.is("NONE without", x.fault(1), NONE);
    }

    static void promise5_none_for_another_what() {
        ProofLine x = new ProofLine();
        Due.text(x, 0, NONE, "word 10;");
        due.is("2", x.fault(2), NONE);
        due.is("-1", x.fault(-1), NONE);
        for (int odd : Edges.ODD) {
            due.is("fault " + odd, x.fault(odd), NONE);
        }
    }

    static void promise6_none_where_there_is_none_such_of_any() {
        ProofLine x = Edges.papers(Edges.proof("12") + Edges.readers(3, "45", "67", "89"), "");
        int[] whats = {0, 2, 1, 3, 10, 1, 11, 2, 12, NONE, 17, NONE, 18, NONE, 19, NONE, 29, 0, 30, 3, 32, 3, 33, NONE,
            36, NONE, 39, NONE, 42, 1, 43, NONE, 49, NONE, 100, 4, 101, 5, 102, NONE, 107, NONE, 108, NONE, 109, NONE,
            110, 6, 120, 8, 121, 9, 122, NONE, 130, NONE, 131, NONE, 160, NONE, 161, NONE};
        for (int i = 0; i < whats.length; i += 2) {
            due.is("what " + whats[i], x.paper(0, whats[i]), whats[i + 1]);
        }
        for (int what : new int[] {10, 17, 30, 35, 40, 45, 100, 107, 110, 150, 157}) {
            due.is("of an empty one " + what, x.paper(1, what), NONE);
        }
        due.is("paper 2 of two", x.paper(2, 0), NONE);
        due.is("paper -1", x.paper(-1, 0), NONE);
        for (int odd : Edges.ODD) {
            due.is("paper " + odd, x.paper(odd, 0), NONE);
        }
    }

    static void promise6_none_for_another_what() {
        ProofLine x = Edges.papers(Edges.proof("12345678") + Edges.readers(1, "1", "1", "1", "1", "1", "12345678"));
        for (int what = 2; what < 10; what++) {
            due.is("what " + what, x.paper(0, what), NONE);
        }
        for (int what = 50; what < 100; what++) {
            due.is("what " + what, x.paper(0, what), NONE);
        }
        due.is("the last", x.paper(0, 157), 8);
        for (int what : new int[] {18, 19, 36, 46, 108, 109, 118, 158, 159, 160, 167, 200, -1, 110 + 1000}) {
            due.is("what " + what, x.paper(0, what), NONE);
        }
        for (int odd : Edges.ODD) {
            due.is("what " + odd, x.paper(0, odd), NONE);
        }
    }

    static void promise6_near_is_told_of_both() {
        ProofLine x = Edges.papers("near 0 9;");
        due.is("of 0", x.paper(0, 20), 512);
        due.is("of 9", x.paper(0, 29), 1);
    }

    static void promise7_none_without_numbers() {
        ProofLine x = Edges.weeks("", "read 3;set 1 2;stet 4 5;join 6 7;part 8 9;print;");
        int[][] deeds = {{0, 3, NONE}, {1, 1, 2}, {2, 4, 5}, {3, 6, 7}, {4, 8, 9}, {5, NONE, NONE}};
        for (int k = 0; k < deeds.length; k++) {
            for (int what = 0; what < 3; what++) {
                due.is("deed " + k + " what " + what, x.deed(0, k, what), deeds[k][what]);
            }
        }
    }

    static void promise7_minus_2_where_there_is_none_such_of_either() {
        ProofLine x = Edges.weeks("", "print;read 1;", "");
        due.is("how many", x.deed(0, NONE, 0), 2);
        due.is("deed 1", x.deed(0, 1, 1), 1);
        due.is("deed 2 of two", x.deed(0, 2, 0), -2);
        due.is("deed -2", x.deed(0, -2, 0), -2);
        due.is("deed 0 of none", x.deed(1, 0, 0), -2);
        due.is("none", x.deed(1, NONE, 0), 0);
        due.is("week 2 of two", x.deed(2, NONE, 0), -2);
        due.is("week -1", x.deed(-1, NONE, 0), -2);
        for (int odd : Edges.ODD) {
            due.is("deed " + odd, x.deed(0, odd, 0), -2);
            due.is("week " + odd, x.deed(odd, 0, 0), -2);
        }
    }

    static void promise7_minus_2_for_another_what() {
        ProofLine x = Edges.weeks("", "set 1 2;");
        for (int what : new int[] {1, 2, 3, -1}) {
            due.is("how many, what " + what, x.deed(0, NONE, what), -2);
        }
        due.is("what 3", x.deed(0, 0, 3), -2);
        due.is("what -1", x.deed(0, 0, -1), -2);
        for (int odd : Edges.ODD) {
            due.is("what " + odd, x.deed(0, 0, odd), -2);
            due.is("how many, what " + odd, x.deed(0, NONE, odd), -2);
        }
    }

    static void promise20_minus_2_where_there_is_none_such_of_either() {
        ProofLine x = Edges.logs("", "was 7 9;was 0 3;", "");
        due.is("how many", x.fact(0, NONE, 0), 2);
        due.is("the PLACE", x.fact(0, 0, 0), 7);
        due.is("the WORD", x.fact(0, 0, 1), 9);
        due.is("fact 1", x.fact(0, 1, 1), 3);
        due.is("fact 2 of two", x.fact(0, 2, 0), -2);
        due.is("fact -2", x.fact(0, -2, 0), -2);
        due.is("fact 0 of none", x.fact(1, 0, 0), -2);
        due.is("none", x.fact(1, NONE, 0), 0);
        due.is("log 2 of two", x.fact(2, NONE, 0), -2);
        due.is("log -1", x.fact(-1, NONE, 0), -2);
        for (int odd : Edges.ODD) {
            due.is("fact " + odd, x.fact(0, odd, 0), -2);
            due.is("log " + odd, x.fact(odd, 0, 0), -2);
        }
    }

    static void promise20_minus_2_for_another_what() {
        ProofLine x = Edges.logs("", "was 7 9;");
        for (int what : new int[] {1, 2, -1}) {
            due.is("how many, what " + what, x.fact(0, NONE, what), -2);
        }
        due.is("what 2", x.fact(0, 0, 2), -2);
        due.is("what -1", x.fact(0, 0, -1), -2);
        for (int odd : Edges.ODD) {
            due.is("what " + odd, x.fact(0, 0, odd), -2);
            due.is("how many, what " + odd, x.fact(0, NONE, odd), -2);
        }
    }

    static void promise32_minus_2_for_another_sort() {
        ProofLine x = Edges.weeks("", "", "");
        due.is("PAPERS", x.count(0), 1);
        due.is("WEEKS", x.count(1), 2);
        due.is("LOGS", x.count(2), 0);
        due.is("sort 3", x.count(3), -2);
        due.is("sort -1", x.count(-1), -2);
        for (int odd : Edges.ODD) {
            due.is("sort " + odd, x.count(odd), -2);
        }
    }
}
