/** Promises 20 to 28, at their boundaries. */
final class WaysEdges {
    /** The BOUND one makes what it is bound to fall: no WAY. */
    private static final String JAM = "r00. b10-0. k20.";
    /** 16 WAYS: each pair stands or falls. */
    private static final String PAIRS = "c00.c00.c10.c10.c20.c20.c30.c30.k90.";
    /** The FIRM one falls only if both pairs stand: in one WAY of four. */
    private static final String THREE_OF_FOUR = "f00. u10-0. u10-0. c20+1. c20. c30+2. c30.";

    private WaysEdges() {
    }

    /** asked() is 7, and the odds 1 by 2 were told. */
    private static BackCourt busy(String signs) {
        BackCourt x = Check.court("c00. c00.");
        x.odds(0);
        Check.write(x, 0, signs);
        x.court(0);
        Check.rowOf(x, 5, 7);
        x.at(5, 0);
        return x;
    }

    // ---- 20 due

    private static void due(String signs, int set, int want) {
        BackCourt x = busy(signs);
        Check.still(x, "due(" + set + ") of " + signs, () -> x.due(set), want);
    }

    static void p20_of_no_rulings() {
        due("", 0, 0);
        BackCourt x = new BackCourt();
        Check.bad(x, "due(1)", () -> x.due(1));
    }

    static void p20_no_set_with_a_ruling_past_the_last() {
        BackCourt x = busy("r00. r10-0. r20.");
        Check.due("due(7)", x.due(7), 6);
        Check.bad(x, "due(8)", () -> x.due(8));
        Check.bad(x, "due(512)", () -> x.due(512));
        Check.bad(x, "due(greatest)", () -> x.due(Check.GREATEST));
    }

    static void p20_no_set_below_0() {
        BackCourt x = busy("r00. r10-0. r20.");
        Check.bad(x, "due(-1)", () -> x.due(-1));
        Check.bad(x, "due(least)", () -> x.due(Check.LEAST));
    }

    static void p20_of_nine() {
        BackCourt x = busy(PAIRS);
        Check.due("due(0)", x.due(0), 256);
        Check.due("due(511)", x.due(511), 511);
        Check.bad(x, "due(512)", () -> x.due(512));
    }

    static void p20_a_ruling_by_none_or_one_against() {
        due("r00. r10-0.", 0, 3);
        due("r00. r10-0.", 2, 2);
        due("r00. r10-0.", 1, 3);
        due("r00. r10-0.", 3, 2);
    }

    static void p20_a_ruling_does_not_mind_those_for_it() {
        due("r00. r10+0.", 0, 3);
        due("r00. r10+0.", 2, 3);
    }

    static void p20_a_ruling_does_not_mind_what_it_cites() {
        due("r00. r10+0. k20-0.", 4, 6);
        due("r00. r10-0. k20.", 0, 7);
    }

    static void p20_a_bound_one_that_cites_none() {
        due("b00. r10-0.", 0, 3);
        due("b00. r10-0.", 2, 2);
    }

    static void p20_a_bound_one_stands_with_what_it_cites_for_or_against() {
        due("r00. b10+0.", 0, 1);
        due("r00. b10+0.", 1, 3);
        due("r00. b10-0.", 0, 1);
        due("r00. b10-0.", 1, 3);
    }

    static void p20_a_bound_one_by_one_against_though_what_it_cites_stands() {
        due("r00. b10+0. r20-1.", 5, 5);
        due("r00. b10+0. r20+1.", 5, 7);
    }

    static void p20_a_firm_one_by_none_one_two_three_against() {
        String signs = "f00. k10-0. k10-0. k10-0.";
        due(signs, 0, 15);
        due(signs, 2, 15);
        due(signs, 8, 15);
        due(signs, 6, 14);
        due(signs, 14, 14);
    }

    static void p20_a_firm_one_does_not_count_those_for_it() {
        due("f00. k10-0. k10+0. k10+0.", 14, 15);
    }

    static void p20_a_firm_one_does_not_mind_what_it_cites() {
        due("u00. f10+0.", 0, 2);
    }

    static void p20_a_rumour_by_none_falls() {
        due("u00.", 0, 0);
        due("u00.", 1, 0);
        due("u00. r10+0.", 0, 2);
    }

    static void p20_a_rumour_by_one_for_it_stands() {
        due("u00. r10+0.", 2, 3);
        due("u00. r10+0. r10+0.", 6, 7);
    }

    static void p20_a_rumour_by_one_for_and_one_against_falls() {
        due("u00. r10+0. r10-0.", 6, 6);
        due("u00. r10+0. r10-0.", 2, 7);
        due("u00. r10+0. r10-0.", 4, 6);
    }

    static void p20_a_rumour_by_one_against_that_falls_falls() {
        due("k00. u10. u20-1.", 1, 1);
    }

    static void p20_a_chained_one_alone_of_its_day_falls() {
        due("c00. r10.", 2, 2);
        due("c00. r10.", 3, 2);
    }

    static void p20_a_chained_one_by_another_of_its_day_of_any_kind() {
        due("c00. r00.", 2, 3);
        due("c00. u00.", 2, 1);
        due("c00. c00.", 2, 1);
        due("c00. c00.", 3, 3);
        due("c00. r00.", 0, 2);
    }

    static void p20_a_chained_one_not_by_one_of_a_day_aside() {
        due("r10. c20. r30.", 7, 5);
    }

    static void p20_a_chained_one_only_if_what_it_cites_stands() {
        due("r00. c10+0. k10.", 4, 5);
        due("r00. c10+0. k10.", 5, 7);
        due("r00. c10-0. k10.", 4, 5);
    }

    static void p20_a_chained_one_by_one_against_falls() {
        due("r00. c10+0. k10. k20-1.", 13, 13);
    }

    static void p20_a_rock_by_eight_against_stands() {
        due("k00.k10-0.k10-0.k10-0.k10-0.k10-0.k10-0.k10-0.k10-0.", 511, 511);
    }

    static void p20_a_rock_does_not_mind_what_it_cites() {
        due("u00. k10+0. k20-1.", 0, 6);
    }

    // ---- 21 ways

    private static void ways(String signs, int want, int first) {
        BackCourt x = busy(signs);
        Check.tells(x, "ways() of " + signs, () -> x.ways(), want, first);
    }

    static void p21_of_no_rulings_there_is_one_the_empty_set() {
        ways("", 1, 0);
    }

    static void p21_no_way_tells_none() {
        ways(JAM, 0, Check.NONE);
    }

    static void p21_one_in_which_none_stands() {
        ways("u00.", 1, 0);
        ways("c00.", 1, 0);
    }

    static void p21_one_in_which_all_nine_stand() {
        ways("r00.r00.r00.r00.r00.r00.r00.r00.r00.", 1, 511);
    }

    static void p21_nine_chained_ones_of_one_day() {
        ways("c00.c00.c00.c00.c00.c00.c00.c00.c00.", 2, 0);
    }

    static void p21_sixteen() {
        ways(PAIRS, 16, 256);
    }

    static void p21_a_pair_bound_to_one_that_stands() {
        ways("c00. r10. c20+1. c20.", 2, 2);
    }

    // ---- 22 nth

    static void p22_the_first_and_the_last() {
        BackCourt x = busy(PAIRS);
        Check.still(x, "nth(0)", () -> x.nth(0), 256);
        Check.still(x, "nth(15)", () -> x.nth(15), 511);
    }

    static void p22_one_past_the_last_is_nought() {
        BackCourt x = busy(PAIRS);
        Check.finds(x, "nth(16)", () -> x.nth(16), Check.NOUGHT);
        Check.finds(x, "nth(512)", () -> x.nth(512), Check.NOUGHT);
        Check.finds(x, "nth(greatest)", () -> x.nth(Check.GREATEST), Check.NOUGHT);
    }

    static void p22_below_0_is_bad() {
        BackCourt x = busy(PAIRS);
        Check.bad(x, "nth(-1)", () -> x.nth(-1));
        Check.bad(x, "nth(least)", () -> x.nth(Check.LEAST));
    }

    static void p22_no_way_is_nought() {
        BackCourt x = busy(JAM);
        Check.finds(x, "nth(0)", () -> x.nth(0), Check.NOUGHT);
        Check.bad(x, "bad ahead of it", () -> x.nth(-1));
    }

    static void p22_ways_go_by_the_set_as_a_number() {
        BackCourt x = busy(PAIRS);
        for (int i = 1; i < 16; i++) {
            Check.holds("nth(" + i + ") is above the one ahead", x.nth(i) > x.nth(i - 1));
        }
    }

    static void p22_of_no_rulings() {
        BackCourt x = busy("");
        Check.still(x, "nth(0)", () -> x.nth(0), 0);
        Check.finds(x, "nth(1)", () -> x.nth(1), Check.NOUGHT);
    }

    // ---- 23 sure

    private static void sure(String signs, int stand, int fall) {
        BackCourt x = busy(signs);
        Check.tells(x, "sure() of " + signs, () -> x.sure(), stand, fall);
    }

    static void p23_without_a_way_neither() {
        sure(JAM, 0, 0);
    }

    static void p23_of_no_rulings() {
        sure("", 0, 0);
    }

    static void p23_of_one_way_all_are_sure() {
        sure("r00. r10-0. k20.", 6, 1);
    }

    static void p23_what_stands_in_some_ways_alone_is_neither() {
        sure("c00. c00. k10. u20.", 4, 8);
        sure(THREE_OF_FOUR, 0, 0);
    }

    static void p23_all_nine_stand_or_fall() {
        sure("r00.r00.r00.r00.r00.r00.r00.r00.r00.", 511, 0);
        sure("u00.u00.u00.u00.u00.u00.u00.u00.u00.", 0, 511);
    }

    // ---- 24 odds

    private static void odds(String signs, int i, long up, long low) {
        BackCourt x = busy(signs);
        Check.due("odds(" + i + ") of " + signs, x.odds(i), 1);
        Check.due("upper()", x.upper(), up);
        Check.due("lower()", x.lower(), low);
        Check.due("asked()", x.asked(), 7);
    }

    static void p24_in_no_way_is_0_by_1() {
        odds("c00. c00. c10. c10. u90.", 4, 0, 1);
    }

    static void p24_in_each_way_is_1_by_1() {
        odds(PAIRS, 8, 1, 1);
    }

    static void p24_in_lowest_terms() {
        odds(PAIRS, 0, 1, 2);
        odds(THREE_OF_FOUR, 3, 1, 2);
    }

    static void p24_where_none_lower_are_there() {
        odds(THREE_OF_FOUR, 0, 3, 4);
    }

    static void p24_no_way_is_nought_and_changes_nothing() {
        BackCourt x = busy(JAM);
        Check.finds(x, "odds(2), a rock", () -> x.odds(2), Check.NOUGHT);
        Check.due("upper() as it was", x.upper(), 1);
        Check.due("lower() as it was", x.lower(), 2);
    }

    static void p24_no_ruling_past_the_last_or_below_0() {
        BackCourt x = busy("r00. r10.");
        Check.due("the last", x.odds(1), 1);
        Check.bad(x, "odds(2)", () -> x.odds(2));
        Check.bad(x, "odds(-1)", () -> x.odds(-1));
        Check.bad(x, "odds(greatest)", () -> x.odds(Check.GREATEST));
    }

    static void p24_bad_goes_ahead_of_nought() {
        BackCourt x = busy(JAM);
        Check.bad(x, "odds(3)", () -> x.odds(3));
    }

    static void p24_of_no_rulings_is_bad() {
        BackCourt x = busy("");
        Check.bad(x, "odds(0)", () -> x.odds(0));
    }

    // ---- 25 together

    private static void together(String signs, int i, int want) {
        BackCourt x = busy(signs);
        Check.still(x, "together(" + i + ") of " + signs, () -> x.together(i), want);
    }

    static void p25_that_one_too() {
        together("r00.", 0, 1);
        together(THREE_OF_FOUR, 0, 1);
    }

    static void p25_all_nine_of_one_way() {
        together("r00.r00.r00.r00.r00.r00.r00.r00.r00.", 8, 511);
        together("u00.u00.u00.u00.u00.u00.u00.u00.u00.", 0, 511);
    }

    static void p25_not_what_does_just_the_other() {
        together("r00. r10-0.", 0, 1);
        together("r00. r10-0.", 1, 2);
        together("r00. u10-0. c20+1. c20.", 0, 1);
    }

    static void p25_not_what_differs_in_one_way_alone() {
        together(PAIRS, 0, 3);
        together(PAIRS, 8, 256);
        together(THREE_OF_FOUR, 1, 2 + 8 + 16);
    }

    static void p25_no_way_is_nought() {
        BackCourt x = busy(JAM);
        Check.finds(x, "together(2)", () -> x.together(2), Check.NOUGHT);
        Check.bad(x, "bad ahead of it", () -> x.together(3));
    }

    static void p25_no_ruling_past_the_last_or_below_0() {
        BackCourt x = busy("r00. r10.");
        Check.bad(x, "together(2)", () -> x.together(2));
        Check.bad(x, "together(-1)", () -> x.together(-1));
        Check.bad(x, "together(greatest)", () -> x.together(Check.GREATEST));
        BackCourt none = busy("");
        Check.bad(none, "of none", () -> none.together(0));
    }

    // ---- 26 till

    private static void till(String signs, int day, int want, int first) {
        BackCourt x = busy(signs);
        Check.tells(x, "till(" + day + ") of " + signs, () -> x.till(day), want, first);
    }

    static void p26_no_day_10_or_below_0() {
        BackCourt x = busy("r00. r90-0.");
        Check.due("till(0)", x.till(0), 1);
        Check.due("till(9)", x.till(9), 1);
        Check.bad(x, "till(10)", () -> x.till(10));
        Check.bad(x, "till(-1)", () -> x.till(-1));
        Check.bad(x, "till(greatest)", () -> x.till(Check.GREATEST));
        Check.bad(x, "till(least)", () -> x.till(Check.LEAST));
    }

    static void p26_the_day_itself_is_told() {
        till("r00. r50-0.", 4, 1, 1);
        till("r00. r50-0.", 5, 1, 2);
        till("r00. r90-0.", 8, 1, 1);
        till("r00. r90-0.", 9, 1, 2);
    }

    static void p26_ahead_of_all_there_is_the_empty_set() {
        till("r90. r80. k70.", 6, 1, 0);
        till("", 0, 1, 0);
    }

    static void p26_no_way_tells_none() {
        till(JAM, 0, 1, 1);
        till(JAM, 1, 0, Check.NONE);
        till(JAM, 9, 0, Check.NONE);
    }

    static void p26_numbers_are_those_of_the_whole_court() {
        till("r90. k50. r00.", 0, 1, 4);
        till("r90. k50. r00.", 5, 1, 6);
    }

    static void p26_one_of_a_later_day_does_not_hold_a_chained_one() {
        till("c10. r20. c10.", 1, 2, 0);
        till("c10. r10. r20-1.", 1, 1, 3);
        till("c10. r10. r20-1.", 2, 1, 4);
    }

    static void p26_the_last_day_is_as_ways() {
        till(PAIRS, 9, 16, 256);
        till(PAIRS, 3, 16, 0);
        till(PAIRS, 0, 2, 0);
    }

    // ---- 27 flips

    private static void flips(String signs, int i, int want) {
        BackCourt x = busy(signs);
        Check.still(x, "flips(" + i + ") of " + signs, () -> x.flips(i), want);
    }

    static void p27_never() {
        flips("r00.", 0, 0);
        flips("u00.", 0, 0);
        flips("k00. r90-0.", 0, 0);
    }

    static void p27_each_day_of_nine() {
        String chain = "r00.r10-0.r20-1.r30-2.r40-3.r50-4.r60-5.r70-6.r80-7.";
        flips(chain, 0, 8);
        flips(chain, 7, 1);
        flips(chain, 8, 0);
    }

    static void p27_on_the_last_day() {
        flips("r00. r90-0.", 0, 1);
        flips("u00. r90+0.", 0, 1);
        flips("r80. r90-0.", 0, 1);
    }

    static void p27_one_of_day_9_never() {
        flips("r90.", 0, 0);
        flips("r80. k90-0.", 1, 0);
    }

    static void p27_days_ahead_of_its_own_do_not_count() {
        // Ahead of its own DAY it would FALL.
        flips("r50.", 0, 0);
        flips("k00. r90-0.", 1, 0);
    }

    static void p27_neither_is_passed_over_to_the_other() {
        // Stands till 0, does neither from 2 on, falls from 5 on.
        flips("r00. u11-0. c20+1. c20. r50-0.", 0, 1);
    }

    static void p27_neither_is_passed_over_to_the_same() {
        // Stands till 0, neither from 2 on; from 5 on the chained one falls, so it stands again.
        flips("r00. u11-0. c20+1. c20. r50-2.", 0, 0);
    }

    static void p27_neither_at_the_end_is_none() {
        flips("r00. u11-0. c20+1. c20.", 0, 0);
    }

    static void p27_neither_at_its_own_day_is_none() {
        flips("c00. c00. r50-0.", 0, 0);
        flips("c00. c00. r50-0. r60-2. r70-1. r80-0.", 0, 0);
    }

    static void p27_days_without_a_way_are_passed_over() {
        // Stands till 0; no WAY till 1; stands till 2; falls till 3.
        flips("r00. b10-0. r20-1. r30-0.", 0, 1);
        // Stands till 0; no WAY till 1; falls till 2.
        flips("r00. b10-0. r20-0.", 0, 1);
    }

    static void p27_no_ruling_past_the_last_or_below_0() {
        BackCourt x = busy("r00. r10-0.");
        Check.bad(x, "flips(2)", () -> x.flips(2));
        Check.bad(x, "flips(-1)", () -> x.flips(-1));
        Check.bad(x, "flips(greatest)", () -> x.flips(Check.GREATEST));
        BackCourt none = busy("");
        Check.bad(none, "of none", () -> none.flips(0));
    }

    // ---- 28 jam

    private static void jam(String signs, int want) {
        BackCourt x = busy(signs);
        Check.still(x, "jam() of " + signs, () -> x.jam(), want);
    }

    static void p28_none() {
        jam("r00. r10-0. k90.", Check.NONE);
        jam(PAIRS, Check.NONE);
    }

    static void p28_of_no_rulings() {
        jam("", Check.NONE);
    }

    static void p28_on_the_first_day_that_can_jam() {
        jam("r00. b10-0.", 1);
    }

    static void p28_on_the_last_day() {
        jam("r00. b90-0.", 9);
        jam("r80. b90-0.", 9);
    }

    static void p28_though_a_later_day_settles_it() {
        jam("r00. b40-0. r50-1.", 4);
    }

    static void p28_the_first_of_two() {
        jam("r00. b60-0. r00. b30-2.", 3);
    }
}
