/** Promise 10 and the small language of COURTS, at their boundaries. */
final class FaultEdges {
    /** Nine of them fill a COURT. */
    private static final String ITEM = "r00.";
    private static final String LETTERS = "rbfuck";
    private static final String FIGURES = "0123456789";

    private FaultEdges() {
    }

    /** A FAULT of a TEXT at a place (NONE: none); asking for it changes nothing. */
    private static void fault(String signs, int want) {
        BackCourt x = new BackCourt();
        Check.write(x, 2, signs);
        Check.still(x, "fault of '" + signs + "'", () -> x.fault(2), want);
    }

    private static void right(String signs) {
        fault(signs, Check.NONE);
    }

    static void p10_an_empty_text_has_none() {
        right("");
    }

    static void p10_blanks_alone_have_none() {
        right(" ");
        right(" ".repeat(80));
    }

    static void p10_blanks_ahead_between_behind() {
        right("   r00.");
        right("r00.   r00.");
        right("r00.   ");
        right("  r00.   b10+0.34     ");
    }

    static void p10_no_blanks_at_all() {
        right("r00.b10+0.34f20-1.");
    }

    static void p10_a_text_of_80_bytes_without_blanks() {
        right("r00.01234".repeat(8) + "r00.0123");
    }

    static void p10_an_item_at_the_very_end_of_80_bytes() {
        right(" ".repeat(76) + "r00.");
        fault(" ".repeat(77) + "r00", 80);
        fault(" ".repeat(79) + "r", 80);
        fault(" ".repeat(79) + "x", 79);
    }

    static void p10_a_blank_within_an_item() {
        fault("r10. r 20-0.13", 6);
        fault("r10. r2 0-0.13", 7);
        fault("r10. r20 -0.13", 8);
        fault("r10. r20- 0.13", 9);
        fault("r10. r20-0 .13", 10);
        fault("r10. r20-0. 13", 12);
        fault("r10. r20-0.1 3", 13);
    }

    static void p10_ends_ahead_of_the_dot() {
        fault("r", 1);
        fault("r0", 2);
        fault("r00", 3);
        fault("r00.b", 5);
        fault("r00.b1", 6);
        fault("r00.b10", 7);
        fault("r00.b10+", 8);
        fault("r00.b10+0", 9);
    }

    static void p10_ends_at_the_dot_or_a_mark() {
        right("r00.");
        right("r00.0");
        right("r00.b10+0.");
        right("r00.b10+0.4");
    }

    static void p10_a_sign_with_nothing_to_cite_ends_ahead_of_its_figure() {
        fault("r50-", 4);
        fault("r50+", 4);
    }

    /** Every byte at a place of an item: those that may be there go on, all others are the FAULT. */
    private static void bytesAt(int place, String mayBe) {
        for (int v = -128; v < 128; v++) {
            BackCourt x = new BackCourt();
            Check.write(x, 1, "r10. b21-0.13");
            x.put(1, place, v);
            int fault = x.fault(1);
            boolean goesOn = v > 0 && mayBe.indexOf(v) >= 0;
            String what = "byte " + v + " at place " + place + " with fault " + fault;
            Check.holds(what, goesOn ? fault == Check.NONE || fault > place : fault == place);
        }
    }

    static void p10_every_byte_as_the_letter() {
        bytesAt(5, LETTERS + " ");
    }

    static void p10_every_byte_as_the_day() {
        bytesAt(6, FIGURES);
    }

    static void p10_every_byte_as_the_verdict() {
        bytesAt(7, "01");
    }

    static void p10_every_byte_as_the_sign() {
        bytesAt(8, "+-.");
    }

    static void p10_every_byte_as_what_is_cited() {
        bytesAt(9, "0");
    }

    static void p10_every_byte_as_the_dot() {
        bytesAt(10, ".");
    }

    static void p10_every_byte_as_the_first_mark() {
        bytesAt(11, "01234" + LETTERS + " ");
    }

    static void p10_every_byte_as_a_rising_mark() {
        bytesAt(12, "234" + LETTERS + " ");
    }

    static void p10_each_letter() {
        for (int kind = 0; kind < 6; kind++) {
            right(LETTERS.charAt(kind) + "00.");
        }
    }

    static void p10_each_day_and_no_tenth() {
        for (int day = 0; day <= 9; day++) {
            right("r" + day + "0.");
        }
        fault("r:0.", 1);
        fault("r/0.", 1);
        fault("r100.", 3);
    }

    static void p10_verdicts_0_and_1_alone() {
        right("r00.");
        right("r01.");
        fault("r02.", 2);
        fault("r0/.", 2);
        fault("r0-.", 2);
    }

    static void p10_no_verdict() {
        fault("r0.", 2);
        fault("r0+0.", 2);
    }

    static void p10_two_signs() {
        fault("r00. r10+-0.", 9);
        fault("r00. r10--0.", 9);
    }

    static void p10_a_sign_without_a_figure() {
        fault("r00. r10+.", 9);
        fault("r00. r10-.", 9);
    }

    static void p10_a_cited_one_without_a_sign() {
        fault("r00. r100.", 8);
    }

    static void p10_cites_two() {
        fault("r00. r00. r20+0+1.", 15);
        fault("r00. r00. r20+01.", 15);
    }

    static void p10_the_first_one_can_cite_none() {
        fault("r90+0.", 4);
        fault("r90-0.", 4);
    }

    static void p10_cites_itself() {
        fault("r00. r10+1.", 9);
    }

    static void p10_cites_one_not_told_yet() {
        fault("r10. r20+2. r00.", 9);
        fault("r10. r20+9.", 9);
    }

    static void p10_cites_one_of_its_own_day() {
        fault("r30. r30+0.", 9);
        fault("r90. r90-0.", 9);
    }

    static void p10_cites_one_of_a_later_day() {
        fault("r40. r30+0.", 9);
    }

    static void p10_cites_one_of_the_day_before() {
        right("r30. r40+0.");
        right("r80. r90-0.");
        right("r00. r90-0.");
    }

    static void p10_cites_the_one_just_ahead_and_the_first() {
        right("r00.r00.r00.r00.r00.r00.r00.r00.r10+7.");
        right("r00.r00.r00.r00.r00.r00.r00.r00.r10-0.");
        fault("r00.r00.r00.r00.r00.r00.r00.r00.r10-8.", 36);
    }

    static void p10_of_day_0_none_can_cite() {
        fault("r00. r00-0.", 9);
        right("r00. r00.");
    }

    static void p10_all_marks_and_none() {
        right("r00.");
        right("r00.01234");
        right("r00.024");
        right("r00.4");
    }

    static void p10_a_mark_twice() {
        fault("r00.00", 5);
        fault("r00.344", 6);
    }

    static void p10_a_mark_falling() {
        fault("r00.10", 5);
        fault("r00.0243", 7);
    }

    static void p10_no_mark_5() {
        fault("r00.5", 4);
        fault("r00.012345", 9);
        fault("r00.9", 4);
    }

    static void p10_marks_behind_a_blank() {
        fault("r00. 1", 5);
        fault("r00.0 1", 6);
    }

    static void p10_nine_are_right() {
        right(ITEM.repeat(9));
        right(ITEM.repeat(9) + "01234  ");
    }

    static void p10_a_tenth_one_is_its_letter() {
        fault(ITEM.repeat(10), 36);
        fault(ITEM.repeat(9) + "   r00.", 39);
        fault(ITEM.repeat(9) + "4k00.", 37);
    }

    static void p10_a_tenth_one_is_its_letter_even_if_it_ends() {
        fault(ITEM.repeat(9) + "r", 36);
        fault(ITEM.repeat(9) + " b", 37);
    }

    static void p10_a_tenth_one_is_its_letter_even_if_it_is_none() {
        fault(ITEM.repeat(9) + "x", 36);
        fault(ITEM.repeat(9) + "5", 36);
    }

    static void p10_the_first_of_several() {
        fault("r02. x", 2);
        fault("r00. b12-9* q", 7);
    }

    static void p10_a_fault_ahead_of_a_tenth_one() {
        fault("x00." + ITEM.repeat(9), 0);
        fault(ITEM.repeat(8) + "r02." + ITEM, 34);
    }

    static void p10_other_blanks_are_none() {
        fault("\tr00.", 0);
        fault("r00.\n", 4);
        fault("r00." + (char) 0, 4);
        fault("r00." + (char) 160, 4);
    }

    static void p10_large_letters_are_none() {
        fault("R00.", 0);
        fault("r00.K00.", 4);
    }

    static void p10_a_sign_cut_to_a_byte_is_that_byte() {
        BackCourt x = new BackCourt();
        Check.write(x, 0, "r00.");
        x.put(0, 0, 'b' + 256);
        x.put(0, 3, '.' - 256);
        Check.due("fault(0)", x.fault(0), Check.NONE);
        x.put(0, 0, 'b' + 128);
        Check.due("half way around", x.fault(0), 0);
    }

    static void p10_bytes_of_a_longer_text_are_not_read() {
        BackCourt x = new BackCourt();
        Check.write(x, 0, "r00.r00.");
        x.text(0, 0);
        Check.due("of none", x.fault(0), Check.NONE);
        x.text(0, 3);
        x.put(0, 0, 'r');
        x.put(0, 1, '0');
        x.put(0, 2, '0');
        Check.due("the dot was of the longer one", x.fault(0), 3);
    }

    static void p10_of_each_text() {
        for (int t = 0; t < 4; t++) {
            BackCourt x = new BackCourt();
            Check.write(x, t, "r0x.");
            Check.due("fault(" + t + ")", x.fault(t), 2);
        }
    }

    static void p10_a_missing_text_is_nothing() {
        BackCourt x = Check.court("r00. c10.");
        Check.finds(x, "fault(1)", () -> x.fault(1), Check.NOTHING);
    }

    static void p10_no_text_4_or_below_0() {
        BackCourt x = Check.court("r00. c10.");
        Check.bad(x, "fault(4)", () -> x.fault(4));
        Check.bad(x, "fault(-1)", () -> x.fault(-1));
        Check.bad(x, "fault(greatest)", () -> x.fault(Check.GREATEST));
        Check.bad(x, "fault(least)", () -> x.fault(Check.LEAST));
    }

    static void p10_leaves_the_court_and_kept_ones_as_they_are() {
        BackCourt x = Check.court("r00. c10.");
        x.keep(0);
        Check.write(x, 1, "k91.4");
        Check.still(x, "fault(1)", () -> x.fault(1), Check.NONE);
        Check.due("on(0)", x.on(0), 2);
        Check.dueRuling(x, 1, 4, 1, 0, Check.NONE, 0, 0, 0);
    }
}
