/** Promises 39 to 42, at their boundaries. */
final class FitsEdges {
    private static final int R = 1, B = 2, F = 4, U = 8, C = 16, K = 32;
    private static final String PAIRS = "c00.c00.c10.c10.c20.c20.c30.c30.k90.";

    private FitsEdges() {
    }

    /** asked() is 7, and the odds 1 by 2 were told. */
    private static BackCourt busy(String signs) {
        BackCourt x = Check.court("c00. c00.");
        x.odds(0);
        Check.write(x, 0, signs);
        x.court(0);
        Check.rowOf(x, 5, 7);
        x.at(5, 0);
        return x;
    }

    // ---- 39 kinds

    private static void kinds(String signs, int i, int set, int want) {
        BackCourt x = busy(signs);
        Check.still(x, "kinds(" + i + ", " + set + ") of " + signs, () -> x.kinds(i, set), want);
    }

    static void p39_of_one_alone_that_stands() {
        kinds("r00.", 0, 1, R + B + F + K);
        kinds("u00.", 0, 1, R + B + F + K);
    }

    static void p39_of_one_alone_that_falls() {
        kinds("r00.", 0, 0, U + C);
        kinds("k00.", 0, 0, U + C);
    }

    static void p39_all_six() {
        kinds("r00. k00. k10+0.", 0, 7, R + B + F + U + C + K);
    }

    static void p39_none() {
        // Another one is not due.
        kinds("r00. k10.", 0, 1, 0);
        kinds("r00. k10.", 0, 0, 0);
    }

    static void p39_by_one_against_firm_ones_stand() {
        kinds("r00. k10-0.", 0, 3, F + K);
        kinds("r00. k10-0.", 0, 2, R + B + U + C);
    }

    static void p39_by_two_against_a_rock_stands() {
        kinds("r00. k10-0. k10-0.", 0, 7, K);
        kinds("r00. k10-0. k10-0.", 0, 6, R + B + F + U + C);
    }

    static void p39_by_one_for_a_rumour_stands() {
        kinds("r00. k10+0.", 0, 3, R + B + F + U + K);
        kinds("r00. k10+0.", 0, 2, C);
    }

    static void p39_by_what_it_cites_falling_bound_ones_fall() {
        kinds("u00. r10+0. k20.", 1, 4, B + U + C);
        kinds("u00. k10. r20+1. k20.", 2, 14, R + B + F + C + K);
    }

    static void p39_it_may_be_what_makes_others_due() {
        // Only as a RUMOUR or a CHAINED one it FALLS, and lets the first one STAND.
        kinds("r00. r10-0.", 1, 1, U + C);
        kinds("r00. r10-0.", 1, 2, R + F + K);
    }

    static void p39_the_kind_stays_as_it_was() {
        BackCourt x = busy("r00. f10-0.");
        x.kinds(1, 2);
        Check.dueRuling(x, 1, 2);
    }

    static void p39_no_ruling_past_the_last_or_below_0() {
        BackCourt x = busy("r00. f10-0.");
        Check.bad(x, "kinds(2, 0)", () -> x.kinds(2, 0));
        Check.bad(x, "kinds(-1, 0)", () -> x.kinds(-1, 0));
        Check.bad(x, "kinds(greatest, 0)", () -> x.kinds(Check.GREATEST, 0));
        BackCourt none = busy("");
        Check.bad(none, "of none", () -> none.kinds(0, 0));
    }

    static void p39_no_set_with_a_ruling_past_the_last() {
        BackCourt x = busy("r00. f10-0.");
        Check.bad(x, "kinds(0, 4)", () -> x.kinds(0, 4));
        Check.bad(x, "kinds(0, -1)", () -> x.kinds(0, -1));
        Check.bad(x, "kinds(0, greatest)", () -> x.kinds(0, Check.GREATEST));
        Check.bad(x, "kinds(0, least)", () -> x.kinds(0, Check.LEAST));
    }

    static void p39_of_nine() {
        kinds(PAIRS, 8, 511, R + B + F + K);
        kinds(PAIRS, 8, 255, U + C);
        kinds(PAIRS, 0, 259, R + B + F + C + K);
        kinds(PAIRS, 0, 256, U + C);
    }

    // ---- 40 forged

    private static void forged(String signs, int set, int want) {
        BackCourt x = busy(signs);
        Check.still(x, "forged(" + set + ") of " + signs, () -> x.forged(set), want);
    }

    static void p40_of_no_rulings() {
        forged("", 0, 0);
    }

    static void p40_none_cites() {
        forged("r00. r10.", 3, 0);
        forged("r00. r10.", 0, 0);
    }

    static void p40_one_against() {
        forged("r00. r10-0.", 3, 2);
    }

    static void p40_one_for() {
        forged("u00. r10+0.", 2, 2);
    }

    static void p40_a_bound_one_bound_no_more() {
        forged("r00. b10+0. k20-0.", 6, 2);
    }

    static void p40_one_alone_of_several() {
        forged("r00. k10-0. r20. k30-2.", 15, 0);
        forged("r00. k10-0. r20. k30-2.", 10 + 4, 8);
        forged("r00. k10-0. r20. k30-2.", 10 + 1, 2);
    }

    static void p40_either_of_two() {
        forged("f00. k10-0. k10-0.", 7, 2 + 4);
    }

    static void p40_two_would_be_needed_is_none() {
        forged("r00. k10-0. k10-0.", 7, 0);
    }

    static void p40_a_way_that_stays_a_way_without_it() {
        // The set is a WAY as it is, and is still one without what does not matter to it.
        forged("r00. k10+0.", 3, 2);
        forged("r00. k10-0. k10-0.", 6, 2 + 4);
    }

    static void p40_a_way_that_is_none_without_it() {
        forged("r00. r10-0.", 2, 0);
    }

    static void p40_citations_stay() {
        BackCourt x = busy("r00. r10-0.");
        x.forged(3);
        Check.dueRuling(x, 1, 0, 1, 0, 0, -1, 0, 0);
        Check.due("count(1)", x.count(1), 1);
    }

    static void p40_no_set_with_a_ruling_past_the_last() {
        BackCourt x = busy("r00. r10-0.");
        Check.bad(x, "forged(4)", () -> x.forged(4));
        Check.bad(x, "forged(-1)", () -> x.forged(-1));
        Check.bad(x, "forged(greatest)", () -> x.forged(Check.GREATEST));
        Check.bad(x, "forged(least)", () -> x.forged(Check.LEAST));
        BackCourt none = busy("");
        Check.bad(none, "of none", () -> none.forged(1));
    }

    static void p40_of_nine() {
        forged("r00.r00.r00.r00.r00.r00.r00.r00.r10-0.", 511, 256);
        BackCourt x = busy(PAIRS);
        Check.bad(x, "forged(512)", () -> x.forged(512));
    }

    // ---- 41 torn

    private static void torn(String signs, int seen, int set, int want, int least) {
        BackCourt x = busy(signs);
        String call = "torn(" + seen + ", " + set + ") of " + signs;
        Check.tells(x, call, () -> x.torn(seen, set), want, least);
    }

    static void p41_none_seen_all_ways_fit() {
        torn(PAIRS, 0, 0, 16, 256);
        torn(PAIRS, 0, 511, 16, 256);
    }

    static void p41_all_seen_just_one_or_none_fits() {
        torn(PAIRS, 511, 511, 1, 511);
        torn(PAIRS, 511, 256, 1, 256);
        torn(PAIRS, 511, 255, 0, Check.NONE);
        torn(PAIRS, 511, 257, 0, Check.NONE);
    }

    static void p41_one_seen_that_stands_or_falls() {
        torn(PAIRS, 1, 1, 8, 259);
        torn(PAIRS, 1, 0, 8, 256);
        torn(PAIRS, 128, 128, 8, 256 + 128 + 64);
    }

    static void p41_what_is_not_seen_does_not_count() {
        torn(PAIRS, 1, 511, 8, 259);
        torn(PAIRS, 1, 510, 8, 256);
    }

    static void p41_seen_as_it_never_is() {
        torn(PAIRS, 256, 0, 0, Check.NONE);
        torn(PAIRS, 3, 1, 0, Check.NONE);
    }

    static void p41_no_way_fits_none() {
        torn("r00. b10-0.", 0, 0, 0, Check.NONE);
    }

    static void p41_of_no_rulings() {
        torn("", 0, 0, 1, 0);
    }

    static void p41_no_sets_with_a_ruling_past_the_last() {
        BackCourt x = busy("r00. r10-0.");
        Check.bad(x, "torn(4, 0)", () -> x.torn(4, 0));
        Check.bad(x, "torn(-1, 0)", () -> x.torn(-1, 0));
        Check.bad(x, "torn(0, 4)", () -> x.torn(0, 4));
        Check.bad(x, "torn(0, -1)", () -> x.torn(0, -1));
        Check.bad(x, "torn(greatest, 0)", () -> x.torn(Check.GREATEST, 0));
        Check.bad(x, "torn(0, least)", () -> x.torn(0, Check.LEAST));
        BackCourt none = busy("");
        Check.bad(none, "of none", () -> none.torn(1, 0));
        Check.bad(none, "of none", () -> none.torn(0, 1));
    }

    // ---- 42 lots

    static void p42_the_least_seed() {
        // 48271, 182605794, 1291394886
        BackCourt x = busy("");
        Check.due("lots(3, 1)", x.lots(3, 1), 3);
        Check.due("asked()", x.asked(), 7);
        Check.dueRuling(x, 0, 1, 3, 1, Check.NONE, 0, 0, 1);
        Check.dueRuling(x, 1, 0, 4, 1, 0, 1, 0, 0);
        Check.dueRuling(x, 2, 0, 0, 0, Check.NONE, 0, 0, 0);
    }

    static void p42_the_greatest_seed() {
        // 2147435376
        BackCourt x = busy("r10. r20.");
        Check.due("lots(1, 2147483646)", x.lots(1, 2147483646), 3);
        Check.dueRuling(x, 2, 0, 2, 0, 0, 1, 0, 0);
    }

    static void p42_no_seed_0_or_below_or_2147483647() {
        BackCourt x = busy("r10.");
        Check.bad(x, "lots(1, 0)", () -> x.lots(1, 0));
        Check.bad(x, "lots(1, -1)", () -> x.lots(1, -1));
        Check.bad(x, "lots(1, least)", () -> x.lots(1, Check.LEAST));
        Check.bad(x, "lots(1, 2147483647)", () -> x.lots(1, 2147483647));
    }

    static void p42_no_fewer_than_1_or_more_than_9() {
        BackCourt x = busy("");
        Check.bad(x, "lots(0, 5)", () -> x.lots(0, 5));
        Check.bad(x, "lots(-1, 5)", () -> x.lots(-1, 5));
        Check.bad(x, "lots(10, 5)", () -> x.lots(10, 5));
        Check.bad(x, "lots(greatest, 5)", () -> x.lots(Check.GREATEST, 5));
        Check.bad(x, "lots(least, 5)", () -> x.lots(Check.LEAST, 5));
        Check.due("lots(9, 5)", x.lots(9, 5), 9);
    }

    static void p42_just_up_to_nine_and_one_more_is_full() {
        BackCourt x = busy("r00. r00. r00.");
        Check.still(x, "lots(7, 5)", () -> x.lots(7, 5), Check.FULL);
        Check.still(x, "lots(9, 5)", () -> x.lots(9, 5), Check.FULL);
        Check.due("lots(6, 5)", x.lots(6, 5), 9);
        Check.still(x, "lots(1, 5)", () -> x.lots(1, 5), Check.FULL);
    }

    static void p42_bad_goes_ahead_of_full() {
        BackCourt x = busy("r00.r00.r00.r00.r00.r00.r00.r00.r00.");
        Check.bad(x, "n 10", () -> x.lots(10, 5));
        Check.bad(x, "n 0", () -> x.lots(0, 5));
        Check.bad(x, "seed 0", () -> x.lots(1, 0));
        Check.bad(x, "seed 2147483647", () -> x.lots(9, 2147483647));
    }

    static void p42_none_of_a_lesser_day_cites_none() {
        // 48271 is of DAY 3.
        BackCourt x = busy("r30. r90. k40.");
        x.lots(1, 1);
        Check.dueRuling(x, 3, 1, 3, 1, Check.NONE, 0, 0, 0);
    }

    static void p42_of_those_of_a_lesser_day_alone() {
        // 48271 by 256 is 188, of 3 the one at 2: RULING 5; by 16384 it is 2, AGAINST.
        BackCourt x = busy("r30. r20. r90. r00. r30. r10. r40.");
        x.lots(1, 1);
        Check.dueRuling(x, 7, 1, 3, 1, 5, -1, 0, 0);
    }

    static void p42_of_four_of_a_lesser_day_the_first() {
        // 188 is divided by 4.
        BackCourt x = busy("r90. r20. r00. r30. r10. r20.");
        x.lots(1, 1);
        Check.dueRuling(x, 6, 1, 3, 1, 1, -1, 0, 0);
    }

    static void p42_cites_those_of_the_same_lots() {
        // 182605794 is of DAY 4, and 48271 ahead of it of DAY 3.
        BackCourt x = busy("k90.");
        x.lots(2, 1);
        Check.dueRuling(x, 2, 0, 4, 1, 1, 1, 0, 0);
    }

    static void p42_one_after_another_as_all_at_once() {
        BackCourt x = busy("");
        x.lots(1, 1);
        x.lots(1, 48271);
        BackCourt y = busy("");
        y.lots(2, 1);
        Check.due("digest()", x.digest(), y.digest());
    }

    static void p42_is_without_marks_where_one_with_marks_was_struck() {
        BackCourt x = busy("r00.01234 r00.01234");
        x.strike(0);
        x.lots(2, 77);
        Check.tells(x, "ruling(0, 5)", () -> x.ruling(0, 5), 1, 0);
        Check.tells(x, "ruling(1, 5)", () -> x.ruling(1, 5), 1, 0);
    }
}
