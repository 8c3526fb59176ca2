/** Promises 11 to 19, at their boundaries. */
final class TextsEdges {
    private static final String EIGHT = "r00.1 b10-0. f20+0. u31-1. c31+1. k40-2. r50-3. c50.";

    private TextsEdges() {
    }

    /** Three RULINGS; asked() is -3, and the odds 0 by 1 were told. */
    private static BackCourt three() {
        BackCourt x = Check.court("r01.012 b10-0. r20-1.4");
        x.odds(1);
        x.like(0, 0);
        return x;
    }

    private static BackCourt nine() {
        BackCourt x = Check.court(EIGHT);
        x.file(2, 9, 1, 7, 1);
        return x;
    }

    // ---- 11 court

    static void p11_of_an_empty_text() {
        BackCourt x = three();
        x.text(1, 0);
        Check.due("court(1)", x.court(1), 0);
        Check.due("count(0)", x.count(0), 0);
    }

    static void p11_of_blanks() {
        BackCourt x = three();
        x.text(1, 80);
        Check.due("court(1)", x.court(1), 0);
        Check.due("count(0)", x.count(0), 0);
    }

    static void p11_of_nine() {
        BackCourt x = new BackCourt();
        Check.write(x, 3, "r00.r00.r00.r00.r00.r00.r00.r00.k91-7.4");
        Check.due("court(3)", x.court(3), 9);
        Check.dueRuling(x, 8, 5, 9, 1, 7, -1, 16, 0);
    }

    static void p11_of_ten_is_state() {
        BackCourt x = three();
        Check.write(x, 1, "r00.".repeat(10));
        Check.still(x, "court(1)", () -> x.court(1), Check.STATE);
    }

    static void p11_a_fault_is_state_and_leaves_all() {
        BackCourt x = three();
        x.keep(2);
        Check.write(x, 1, "k00. k00. k02.");
        Check.still(x, "court(1)", () -> x.court(1), Check.STATE);
        Check.dueRuling(x, 0, 0, 0, 1, Check.NONE, 0, 7, 1);
        Check.due("on(2)", x.on(2), 3);
    }

    static void p11_a_fault_at_the_end_is_state() {
        BackCourt x = three();
        Check.write(x, 1, "k00. k00");
        Check.still(x, "court(1)", () -> x.court(1), Check.STATE);
    }

    static void p11_a_missing_text_is_nothing_and_not_state() {
        BackCourt x = three();
        Check.finds(x, "court(1)", () -> x.court(1), Check.NOTHING);
    }

    static void p11_no_text_4_or_below_0() {
        BackCourt x = three();
        Check.bad(x, "court(4)", () -> x.court(4));
        Check.bad(x, "court(-1)", () -> x.court(-1));
        Check.bad(x, "court(greatest)", () -> x.court(Check.GREATEST));
        Check.bad(x, "court(least)", () -> x.court(Check.LEAST));
    }

    static void p11_anew_nothing_of_the_one_before_is_left() {
        BackCourt x = three();
        Check.write(x, 1, "u90.");
        Check.due("court(1)", x.court(1), 1);
        Check.dueRuling(x, 0, 3, 9, 0, Check.NONE, 0, 0, 0);
        Check.bad(x, "ruling(1, 0)", () -> x.ruling(1, 0));
    }

    static void p11_kept_courts_go_in_every_place() {
        BackCourt x = three();
        x.keep(0);
        x.keep(1);
        x.keep(2);
        Check.due("court(0)", x.court(0), 3);
        Check.due("count(7)", x.count(7), 0);
        for (int k = 0; k < 3; k++) {
            int place = k;
            Check.finds(x, "on(" + k + ")", () -> x.on(place), Check.NOTHING);
        }
    }

    static void p11_kept_courts_go_by_an_empty_text_too() {
        BackCourt x = three();
        x.keep(1);
        x.text(1, 0);
        x.court(1);
        Check.due("count(7)", x.count(7), 0);
    }

    static void p11_the_text_stays_and_may_change() {
        BackCourt x = three();
        Check.due("count(6)", x.count(6), 1);
        x.put(0, 1, '9');
        Check.dueRuling(x, 0, 0, 0, 1);
        x.text(0, 0);
        Check.due("count(0)", x.count(0), 3);
    }

    static void p11_tells_nothing() {
        BackCourt x = three();
        x.court(0);
        Check.due("asked()", x.asked(), -3);
    }

    // ---- 12 ruling

    static void p12_of_every_kind() {
        BackCourt x = nine();
        Check.dueRuling(x, 0, 0, 0, 0, Check.NONE, 0, 2, 2);
        Check.dueRuling(x, 1, 1, 1, 0, 0, -1, 0, 2);
        Check.dueRuling(x, 2, 2, 2, 0, 0, 1, 0, 1);
        Check.dueRuling(x, 3, 3, 3, 1, 1, -1, 0, 1);
        Check.dueRuling(x, 4, 4, 3, 1, 1, 1, 0, 0);
        Check.dueRuling(x, 5, 5, 4, 0, 2, -1, 0, 0);
        Check.dueRuling(x, 6, 0, 5, 0, 3, -1, 0, 0);
        Check.dueRuling(x, 7, 4, 5, 0, Check.NONE, 0, 0, 1);
        Check.dueRuling(x, 8, 2, 9, 1, 7, 1, 0, 0);
    }

    static void p12_no_marks_and_all() {
        Check.dueRuling(Check.court("r00."), 0, 0, 0, 0, Check.NONE, 0, 0, 0);
        Check.dueRuling(Check.court("r00.01234"), 0, 0, 0, 0, Check.NONE, 0, 31, 0);
        Check.dueRuling(Check.court("r00.4"), 0, 0, 0, 0, Check.NONE, 0, 16, 0);
    }

    static void p12_eight_cite_one() {
        BackCourt x = Check.court("r00.r10-0.r10+0.r10-0.r10+0.r10-0.r10+0.r10-0.r10+0.");
        Check.tells(x, "ruling(0, 6)", () -> x.ruling(0, 6), 1, 8);
        Check.tells(x, "ruling(8, 6)", () -> x.ruling(8, 6), 1, 0);
    }

    static void p12_no_what_7_or_below_0() {
        BackCourt x = three();
        Check.bad(x, "ruling(0, 7)", () -> x.ruling(0, 7));
        Check.bad(x, "ruling(0, -1)", () -> x.ruling(0, -1));
        Check.bad(x, "ruling(0, greatest)", () -> x.ruling(0, Check.GREATEST));
        Check.bad(x, "ruling(0, least)", () -> x.ruling(0, Check.LEAST));
    }

    static void p12_no_ruling_past_the_last_or_below_0() {
        BackCourt x = three();
        Check.due("the last", x.ruling(2, 0), 1);
        Check.bad(x, "ruling(3, 0)", () -> x.ruling(3, 0));
        Check.bad(x, "ruling(-1, 0)", () -> x.ruling(-1, 0));
        Check.bad(x, "ruling(NONE, 0)", () -> x.ruling(Check.NONE, 0));
        Check.bad(x, "ruling(greatest, 0)", () -> x.ruling(Check.GREATEST, 0));
    }

    static void p12_no_tenth_ruling() {
        BackCourt x = nine();
        Check.due("the ninth", x.ruling(8, 0), 1);
        Check.bad(x, "ruling(9, 0)", () -> x.ruling(9, 0));
    }

    static void p12_of_no_rulings() {
        BackCourt x = new BackCourt();
        Check.bad(x, "ruling(0, 0)", () -> x.ruling(0, 0));
    }

    // ---- 13 mark

    static void p13_every_kind_as_every_kind() {
        // 0 r, 1 b, 2 f, 3 u, 4 c, 5 k; NONE stands for UNLIKE here.
        int[][] due = {
            {Check.NONE, Check.NONE, Check.NONE, Check.NONE, Check.NONE},
            {1, Check.NONE, Check.NONE, Check.NONE, Check.NONE},
            {Check.NONE, 0, Check.NONE, Check.NONE, Check.NONE},
            {Check.NONE, Check.NONE, 0, Check.NONE, Check.NONE},
            {2, Check.NONE, Check.NONE, 1, Check.NONE},
            {Check.NONE, 0, Check.NONE, Check.NONE, 1}};
        for (int i = 0; i < 6; i++) {
            for (int kind = 1; kind <= 5; kind++) {
                BackCourt x = Check.court("r00. b10+0. f20. u30. c30+1. k90.");
                int one = i;
                int as = kind;
                if (due[i][kind - 1] == Check.NONE) {
                    Check.finds(x, "mark(" + i + ", " + kind + ")", () -> x.mark(one, as), Check.UNLIKE);
                } else {
                    Check.still(x, "mark(" + i + ", " + kind + ")", () -> x.mark(one, as), due[i][kind - 1]);
                }
            }
        }
    }

    static void p13_kind_0_is_bad_of_a_ruling_of_kind_0_too() {
        BackCourt x = three();
        Check.bad(x, "mark(0, 0)", () -> x.mark(0, 0));
        Check.bad(x, "mark(1, 0)", () -> x.mark(1, 0));
    }

    static void p13_no_kind_6_or_below_0() {
        BackCourt x = three();
        Check.bad(x, "mark(1, 6)", () -> x.mark(1, 6));
        Check.bad(x, "mark(1, -1)", () -> x.mark(1, -1));
        Check.bad(x, "mark(1, greatest)", () -> x.mark(1, Check.GREATEST));
        Check.bad(x, "mark(1, least)", () -> x.mark(1, Check.LEAST));
    }

    static void p13_no_ruling_past_the_last_or_below_0() {
        BackCourt x = three();
        Check.bad(x, "mark(3, 1)", () -> x.mark(3, 1));
        Check.bad(x, "mark(-1, 1)", () -> x.mark(-1, 1));
        BackCourt none = new BackCourt();
        Check.bad(none, "of none", () -> none.mark(0, 1));
    }

    static void p13_a_bound_one_that_cites_none() {
        Check.due("mark(0, 1)", Check.court("b00. b10.").mark(1, 1), 0);
    }

    static void p13_a_bound_one_at_the_end_of_nine() {
        BackCourt x = Check.court("k00.u10-0.f20+1.c30-2.b40+3.r50-4.r60+5.r70-6.b80+7.");
        Check.due("mark(8, 1)", x.mark(8, 1), 8);
        Check.due("mark(4, 1)", x.mark(4, 1), 4);
        Check.due("mark(3, 1)", x.mark(3, 1), 3);
    }

    static void p13_a_firm_one_cited_by_none_and_by_eight() {
        BackCourt x = Check.court("f00.r10-0.r10-0.r10-0.r10-0.r10-0.r10-0.r10-0.f10-0.");
        Check.due("mark(0, 2)", x.mark(0, 2), 8);
        Check.due("mark(8, 2)", x.mark(8, 2), 0);
    }

    static void p13_a_firm_one_does_not_count_those_for_it() {
        Check.due("mark(0, 2)", Check.court("f00. r10+0. r10-0. r10+0.").mark(0, 2), 1);
        Check.due("a rock, too", Check.court("k00. r10+0. r10-0. r10-0.").mark(0, 2), 2);
    }

    static void p13_a_rumour_does_not_count_those_against_it() {
        Check.due("mark(0, 3)", Check.court("u00. r10+0. r10-0. r10+0.").mark(0, 3), 2);
        Check.due("none", Check.court("u00. r10-0.").mark(0, 3), 0);
    }

    static void p13_a_chained_one_alone_of_its_day_and_among_nine() {
        Check.due("alone", Check.court("c50. r40. r60.").mark(0, 4), 0);
        Check.due("among nine", Check.court("c50.r50.b50.f50.u50.k50.c50.r50.c50.").mark(8, 4), 8);
    }

    static void p13_a_rock_without_a_way_stands_in_none() {
        Check.due("mark(2, 5)", Check.court("r00. b10-0. k20.").mark(2, 5), 0);
    }

    static void p13_a_rock_stands_in_each_of_16_ways() {
        Check.due("mark(8, 5)", Check.court("c00.c00.c10.c10.c20.c20.c30.c30.k90.").mark(8, 5), 16);
    }

    // ---- 14 reverse

    static void p14_to_the_same_and_to_the_other() {
        BackCourt x = three();
        Check.still(x, "the same", () -> x.reverse(0, 1), 1);
        Check.due("the other", x.reverse(0, 0), 1);
        Check.due("and back", x.reverse(0, 1), 0);
        Check.dueRuling(x, 0, 0, 0, 1);
    }

    static void p14_no_verdict_2_or_below_0() {
        BackCourt x = three();
        Check.bad(x, "reverse(0, 2)", () -> x.reverse(0, 2));
        Check.bad(x, "reverse(0, -1)", () -> x.reverse(0, -1));
        Check.bad(x, "reverse(0, greatest)", () -> x.reverse(0, Check.GREATEST));
        Check.bad(x, "reverse(0, least)", () -> x.reverse(0, Check.LEAST));
    }

    static void p14_no_ruling_past_the_last_or_below_0() {
        BackCourt x = three();
        Check.due("the last", x.reverse(2, 1), 0);
        Check.bad(x, "reverse(3, 0)", () -> x.reverse(3, 0));
        Check.bad(x, "reverse(-1, 0)", () -> x.reverse(-1, 0));
        Check.bad(x, "reverse(greatest, 0)", () -> x.reverse(Check.GREATEST, 0));
    }

    static void p14_a_kept_court_stays() {
        BackCourt x = three();
        x.keep(0);
        x.reverse(0, 0);
        x.on(0);
        Check.dueRuling(x, 0, 0, 0, 1);
    }

    // ---- 15 marks

    static void p15_none_and_all() {
        BackCourt x = three();
        Check.due("none", x.marks(0, 0), 7);
        Check.due("all", x.marks(0, 31), 0);
        Check.still(x, "the same", () -> x.marks(0, 31), 31);
        Check.dueRuling(x, 0, 0, 0, 1, Check.NONE, 0, 31);
    }

    static void p15_no_set_32_or_below_0() {
        BackCourt x = three();
        Check.bad(x, "marks(0, 32)", () -> x.marks(0, 32));
        Check.bad(x, "marks(0, -1)", () -> x.marks(0, -1));
        Check.bad(x, "marks(0, greatest)", () -> x.marks(0, Check.GREATEST));
        Check.bad(x, "marks(0, least)", () -> x.marks(0, Check.LEAST));
    }

    static void p15_no_ruling_past_the_last_or_below_0() {
        BackCourt x = three();
        Check.due("the last", x.marks(2, 1), 16);
        Check.bad(x, "marks(3, 0)", () -> x.marks(3, 0));
        Check.bad(x, "marks(-1, 0)", () -> x.marks(-1, 0));
        Check.bad(x, "marks(greatest, 0)", () -> x.marks(Check.GREATEST, 0));
    }

    static void p15_a_kept_court_stays() {
        BackCourt x = three();
        x.keep(0);
        x.marks(0, 24);
        x.on(0);
        Check.dueRuling(x, 0, 0, 0, 1, Check.NONE, 0, 7);
    }

    // ---- 16 file

    private static void file(BackCourt x, int want, int kind, int day, int verdict, int cites, int how) {
        Check.due("file", x.file(kind, day, verdict, cites, how), want);
        Check.dueRuling(x, want, kind, day, verdict, cites, how, 0, 0);
    }

    private static void badFile(BackCourt x, int kind, int day, int verdict, int cites, int how) {
        String call = "file(" + kind + ", " + day + ", " + verdict + ", " + cites + ", " + how + ")";
        Check.bad(x, call, () -> x.file(kind, day, verdict, cites, how));
    }

    static void p16_the_first_one() {
        file(new BackCourt(), 0, 0, 0, 0, Check.NONE, 0);
    }

    static void p16_every_kind_and_none_else() {
        BackCourt x = new BackCourt();
        for (int kind = 0; kind < 6; kind++) {
            file(x, kind, kind, 4, 1, Check.NONE, 0);
        }
        badFile(x, 6, 4, 1, Check.NONE, 0);
        badFile(x, -1, 4, 1, Check.NONE, 0);
        badFile(x, Check.GREATEST, 4, 1, Check.NONE, 0);
        badFile(x, Check.LEAST, 4, 1, Check.NONE, 0);
    }

    static void p16_days_0_to_9() {
        BackCourt x = three();
        file(x, 3, 0, 0, 0, Check.NONE, 0);
        file(x, 4, 0, 9, 0, Check.NONE, 0);
        badFile(x, 0, 10, 0, Check.NONE, 0);
        badFile(x, 0, -1, 0, Check.NONE, 0);
        badFile(x, 0, 10, 0, 0, 1);
        badFile(x, 0, Check.GREATEST, 0, 0, 1);
    }

    static void p16_verdicts_0_and_1() {
        BackCourt x = three();
        file(x, 3, 0, 0, 0, Check.NONE, 0);
        file(x, 4, 0, 0, 1, Check.NONE, 0);
        badFile(x, 0, 0, 2, Check.NONE, 0);
        badFile(x, 0, 0, -1, Check.NONE, 0);
    }

    static void p16_for_and_against_and_no_other_how() {
        BackCourt x = three();
        file(x, 3, 0, 9, 0, 2, 1);
        file(x, 4, 0, 9, 0, 2, -1);
        badFile(x, 0, 9, 0, 2, 0);
        badFile(x, 0, 9, 0, 2, 2);
        badFile(x, 0, 9, 0, 2, -2);
        badFile(x, 0, 9, 0, 2, Check.GREATEST);
        badFile(x, 0, 9, 0, 2, Check.LEAST);
    }

    static void p16_none_only_by_0() {
        BackCourt x = three();
        badFile(x, 0, 9, 0, Check.NONE, 1);
        badFile(x, 0, 9, 0, Check.NONE, -1);
        file(x, 3, 0, 9, 0, Check.NONE, 0);
    }

    static void p16_one_of_the_day_before_but_not_of_its_own() {
        BackCourt x = three();
        file(x, 3, 0, 3, 0, 2, 1);
        badFile(x, 0, 2, 0, 2, 1);
        badFile(x, 0, 1, 0, 2, -1);
        badFile(x, 0, 0, 0, 0, 1);
    }

    static void p16_cites_no_such_one() {
        BackCourt x = three();
        badFile(x, 0, 9, 0, 3, 1);
        badFile(x, 0, 9, 0, 9, -1);
        badFile(x, 0, 9, 0, -1, 1);
        badFile(x, 0, 9, 0, -1, 0);
        badFile(x, 0, 9, 0, -8, 0);
        badFile(x, 0, 9, 0, -10, 0);
        badFile(x, 0, 9, 0, Check.GREATEST, 1);
        badFile(x, 0, 9, 0, Check.LEAST, 0);
    }

    static void p16_cites_none_that_was_struck() {
        BackCourt x = three();
        x.strike(2);
        badFile(x, 0, 9, 0, 2, 1);
        file(x, 2, 0, 9, 0, 1, 1);
    }

    static void p16_the_ninth_is_filed_and_a_tenth_is_full() {
        BackCourt x = Check.court(EIGHT);
        file(x, 8, 5, 9, 1, 7, -1);
        Check.still(x, "file", () -> x.file(0, 0, 0, Check.NONE, 0), Check.FULL);
        Check.still(x, "file, citing", () -> x.file(0, 9, 0, 0, 1), Check.FULL);
    }

    static void p16_bad_goes_ahead_of_full() {
        BackCourt x = nine();
        badFile(x, 6, 0, 0, Check.NONE, 0);
        badFile(x, 0, 10, 0, Check.NONE, 0);
        badFile(x, 0, 0, 2, Check.NONE, 0);
        badFile(x, 0, 0, 0, Check.NONE, 1);
        badFile(x, 0, 9, 0, 8, 1);
    }

    static void p16_is_without_marks_where_one_with_marks_was_struck() {
        BackCourt x = three();
        x.strike(2);
        file(x, 2, 0, 0, 0, Check.NONE, 0);
    }

    static void p16_tells_nothing() {
        BackCourt x = three();
        x.file(0, 0, 0, Check.NONE, 0);
        Check.due("asked()", x.asked(), -3);
    }

    // ---- 17 strike

    static void p17_from_behind_the_last_on_is_none() {
        BackCourt x = three();
        Check.still(x, "strike(3)", () -> x.strike(3), 0);
    }

    static void p17_the_last_one() {
        BackCourt x = three();
        Check.due("strike(2)", x.strike(2), 1);
        Check.due("count(0)", x.count(0), 2);
        Check.tells(x, "ruling(1, 6)", () -> x.ruling(1, 6), 1, 0);
    }

    static void p17_all() {
        BackCourt x = nine();
        Check.due("strike(0)", x.strike(0), 9);
        Check.due("count(0)", x.count(0), 0);
        Check.due("count(1)", x.count(1), 0);
    }

    static void p17_of_no_rulings() {
        BackCourt x = new BackCourt();
        Check.still(x, "strike(0)", () -> x.strike(0), 0);
        Check.bad(x, "strike(1)", () -> x.strike(1));
    }

    static void p17_past_behind_the_last_is_bad() {
        BackCourt x = three();
        Check.bad(x, "strike(4)", () -> x.strike(4));
        Check.bad(x, "strike(9)", () -> x.strike(9));
        Check.bad(x, "strike(greatest)", () -> x.strike(Check.GREATEST));
    }

    static void p17_below_0_is_bad() {
        BackCourt x = three();
        Check.bad(x, "strike(-1)", () -> x.strike(-1));
        Check.bad(x, "strike(NONE)", () -> x.strike(Check.NONE));
        Check.bad(x, "strike(least)", () -> x.strike(Check.LEAST));
    }

    static void p17_kept_courts_stay() {
        BackCourt x = three();
        x.keep(1);
        x.strike(0);
        Check.due("count(7)", x.count(7), 1);
        Check.due("on(1)", x.on(1), 3);
    }

    static void p17_leaves_room_for_more() {
        BackCourt x = nine();
        x.strike(8);
        Check.due("file", x.file(0, 0, 0, Check.NONE, 0), 8);
    }

    // ---- 18 keep

    static void p18_in_the_first_and_the_last_place() {
        BackCourt x = three();
        Check.due("keep(0)", x.keep(0), 3);
        Check.due("keep(2)", x.keep(2), 3);
        Check.due("count(7)", x.count(7), 2);
        Check.finds(x, "on(1)", () -> x.on(1), Check.NOTHING);
    }

    static void p18_no_place_3_or_below_0() {
        BackCourt x = three();
        Check.bad(x, "keep(3)", () -> x.keep(3));
        Check.bad(x, "keep(-1)", () -> x.keep(-1));
        Check.bad(x, "keep(greatest)", () -> x.keep(Check.GREATEST));
        Check.bad(x, "keep(least)", () -> x.keep(Check.LEAST));
    }

    static void p18_no_rulings_is_state() {
        BackCourt x = new BackCourt();
        Check.still(x, "keep(0)", () -> x.keep(0), Check.STATE);
    }

    static void p18_no_rulings_leaves_what_is_kept() {
        BackCourt x = three();
        x.keep(0);
        x.strike(0);
        Check.still(x, "keep(0)", () -> x.keep(0), Check.STATE);
        Check.due("on(0)", x.on(0), 3);
    }

    static void p18_bad_goes_ahead_of_state() {
        BackCourt x = new BackCourt();
        Check.bad(x, "keep(3)", () -> x.keep(3));
        Check.bad(x, "keep(-1)", () -> x.keep(-1));
    }

    static void p18_one_and_nine() {
        BackCourt x = nine();
        Check.due("nine", x.keep(0), 9);
        x.strike(1);
        Check.due("one", x.keep(1), 1);
        Check.due("on(0)", x.on(0), 9);
        Check.dueRuling(x, 8, 2, 9, 1, 7, 1, 0, 0);
        Check.due("on(1)", x.on(1), 1);
    }

    static void p18_over_one_that_was_kept() {
        BackCourt x = nine();
        x.keep(1);
        x.strike(2);
        Check.due("keep(1)", x.keep(1), 2);
        Check.due("count(7)", x.count(7), 1);
        x.strike(0);
        Check.due("on(1)", x.on(1), 2);
    }

    // ---- 19 on

    static void p19_a_missing_one_is_nothing() {
        BackCourt x = three();
        x.keep(1);
        Check.finds(x, "on(0)", () -> x.on(0), Check.NOTHING);
        Check.finds(x, "on(2)", () -> x.on(2), Check.NOTHING);
    }

    static void p19_no_place_3_or_below_0() {
        BackCourt x = three();
        x.keep(0);
        Check.bad(x, "on(3)", () -> x.on(3));
        Check.bad(x, "on(-1)", () -> x.on(-1));
        Check.bad(x, "on(greatest)", () -> x.on(Check.GREATEST));
        Check.bad(x, "on(least)", () -> x.on(Check.LEAST));
    }

    static void p19_all_is_as_it_was() {
        BackCourt x = nine();
        x.keep(2);
        long kept = x.digest();
        x.marks(3, 31);
        x.reverse(0, 1);
        x.strike(5);
        x.file(5, 9, 1, 0, -1);
        Check.due("on(2)", x.on(2), 9);
        Check.due("digest()", x.digest(), kept);
    }

    static void p19_the_same_again() {
        BackCourt x = three();
        x.keep(0);
        Check.still(x, "on(0)", () -> x.on(0), 3);
        x.strike(0);
        Check.due("on(0)", x.on(0), 3);
        x.marks(0, 0);
        x.on(0);
        Check.dueRuling(x, 0, 0, 0, 1, Check.NONE, 0, 7);
    }

    static void p19_a_lesser_one_over_a_greater_one() {
        BackCourt x = nine();
        x.keep(0);
        x.strike(1);
        x.keep(1);
        x.on(0);
        Check.due("on(1)", x.on(1), 1);
        Check.bad(x, "ruling(1, 0)", () -> x.ruling(1, 0));
        Check.tells(x, "none cites it", () -> x.ruling(0, 6), 1, 0);
    }

    static void p19_a_greater_one_over_none() {
        BackCourt x = nine();
        x.keep(0);
        x.strike(0);
        Check.due("on(0)", x.on(0), 9);
        Check.dueRuling(x, 0, 0, 0, 0, Check.NONE, 0, 2, 2);
    }

    static void p19_rows_texts_and_what_was_told_stay() {
        BackCourt x = three();
        x.keep(0);
        Check.rowOf(x, 0, 5);
        x.text(3, 2);
        x.strike(0);
        x.at(0, 0);
        x.on(0);
        Check.due("asked()", x.asked(), 5);
        Check.due("count(5)", x.count(5), 1);
        Check.due("count(6)", x.count(6), 2);
        Check.due("count(7)", x.count(7), 1);
    }
}
