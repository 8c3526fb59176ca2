import java.util.function.IntSupplier;

/** Promises 29 to 33, at their boundaries. */
final class FilingEdges {
    /** The BOUND one makes what it is bound to fall: no WAY, till one of both is felled. */
    private static final String JAM = "r00. b10-0.";

    private FilingEdges() {
    }

    /** ROW 2 is 7 7 7 7 7, asked() is 7, and the odds 1 by 2 were told. */
    private static BackCourt busy(String signs) {
        BackCourt x = Check.court("c00. c00.");
        x.odds(0);
        Check.write(x, 0, signs);
        x.court(0);
        Check.rowOf(x, 2, 7, 7, 7, 7, 7);
        x.at(2, 0);
        return x;
    }

    /** How many, and the ROW that it came to; nothing is FILED for true, nothing told. */
    private static void filed(BackCourt x, String call, IntSupplier ask, String row) {
        int rulings = x.count(0);
        Check.due(call, ask.getAsInt(), row.isEmpty() ? 0 : row.split(" ").length);
        Check.due(call + " asked()", x.asked(), 7);
        Check.due(call + " count(0)", x.count(0), rulings);
        Check.due(call + " count(5)", x.count(5), 1);
        Check.dueRow(call, x, 2, row);
    }

    private static void fell(String signs, int i, String row) {
        BackCourt x = busy(signs);
        filed(x, "fell(" + i + ", 2) of " + signs, () -> x.fell(i, 2), row);
    }

    private static void guard(String signs, int i, String row) {
        BackCourt x = busy(signs);
        filed(x, "guard(" + i + ", 2) of " + signs, () -> x.guard(i, 2), row);
    }

    private static void settle(String signs, String row) {
        BackCourt x = busy(signs);
        filed(x, "settle(2) of " + signs, () -> x.settle(2), row);
    }

    private static void fellByNone(String signs, int i) {
        BackCourt x = busy(signs);
        Check.still(x, "fell(" + i + ", 2) of " + signs, () -> x.fell(i, 2), Check.NONE);
        Check.still(x, "and no row is made", () -> x.fell(i, 4), Check.NONE);
    }

    private static void guardByNone(String signs, int i) {
        BackCourt x = busy(signs);
        Check.still(x, "guard(" + i + ", 2) of " + signs, () -> x.guard(i, 2), Check.NONE);
        Check.still(x, "and no row is made", () -> x.guard(i, 4), Check.NONE);
    }

    // ---- 29 fell

    static void p29_none_to_be_filed_makes_a_row_of_none() {
        fell("u00.", 0, "");
        fell("r00. r10-0.", 0, "");
    }

    static void p29_one() {
        fell("r00.", 0, "0");
        fell("b00.", 0, "0");
        fell("u00. r10+0.", 0, "0");
        fell("c00. r00.", 0, "0");
    }

    static void p29_the_same_one_twice() {
        fell("f00.", 0, "0 0");
        fell("k00. f00.", 1, "1 1");
    }

    static void p29_a_firm_one_that_one_is_against_already() {
        fell("f00. k10-0.", 0, "0");
    }

    static void p29_three() {
        fell(JAM + " f20.", 2, "0 2 2");
    }

    static void p29_four_would_do_is_none() {
        fellByNone(JAM + " r00. b10-2. f20.", 4);
    }

    static void p29_a_rock_is_none() {
        fellByNone("k00.", 0);
        fellByNone("r00. k10.", 1);
    }

    static void p29_the_first_row_of_several() {
        // Each of three would do; one AGAINST the ROCK does nothing.
        fell("k00. r00. b10+1. b20+2.", 3, "1");
        fell("r00. b10+0. b20+1. r90.", 2, "0");
    }

    static void p29_what_it_cites_goes_by_numbers_not_by_days() {
        fell("r90. r50. b60+1.", 2, "1");
        fell("r00. b90+0. k80.", 1, "0");
    }

    static void p29_the_fewest_ahead_of_the_first_row() {
        // By 0 0 the BOUND one would FALL, too.
        fell("f00. b10+0.", 1, "1");
    }

    static void p29_falls_in_some_ways_is_not_surely() {
        fell("c00. c00.", 0, "0");
        fell("c00. c00.", 1, "0");
    }

    static void p29_without_a_way_none_falls_surely() {
        fell(JAM, 0, "0");
        fell(JAM, 1, "0");
        fell(JAM + " u20.", 2, "0");
    }

    static void p29_in_a_full_court_behind_day_9() {
        fell("f90.f90.f90.f90.f90.f90.f90.f90.f90.", 8, "8 8");
        fell("r90.r90.r90.r90.r90.r90.r90.r90.r90.", 0, "0");
    }

    static void p29_those_filed_are_of_no_other_days() {
        // Were one FILED of the CHAINED one's DAY, it would STAND.
        fell("c90.", 0, "");
    }

    static void p29_a_missing_row_is_there_then() {
        BackCourt x = busy("r00.");
        Check.due("fell(0, 5)", x.fell(0, 5), 1);
        Check.dueRow("fell(0, 5)", x, 5, "0");
        Check.due("fell(0, 0)", x.fell(0, 0), 1);
        Check.dueRow("fell(0, 0)", x, 0, "0");
        Check.due("count(5)", x.count(5), 3);
    }

    static void p29_no_row_6_or_below_0() {
        BackCourt x = busy("r00. k00.");
        Check.bad(x, "fell(0, 6)", () -> x.fell(0, 6));
        Check.bad(x, "fell(0, -1)", () -> x.fell(0, -1));
        Check.bad(x, "fell(0, greatest)", () -> x.fell(0, Check.GREATEST));
        Check.bad(x, "fell(1, 6), bad though it would be none", () -> x.fell(1, 6));
    }

    static void p29_no_ruling_past_the_last_or_below_0() {
        BackCourt x = busy("r00. k00.");
        Check.bad(x, "fell(2, 2)", () -> x.fell(2, 2));
        Check.bad(x, "fell(-1, 2)", () -> x.fell(-1, 2));
        Check.bad(x, "fell(least, 2)", () -> x.fell(Check.LEAST, 2));
        BackCourt none = busy("");
        Check.bad(none, "of none", () -> none.fell(0, 2));
    }

    // ---- 30 guard

    static void p30_none_to_be_filed_makes_a_row_of_none() {
        guard("r00.", 0, "");
        guard("k00. k10-0.", 0, "");
    }

    static void p30_one_two_three() {
        guard("r00. r10-0.", 0, "1");
        guard("r00. f10-0.", 0, "1 1");
        guard("r00. f10-0. r20-0.", 0, "1 1 2");
    }

    static void p30_four_would_do_is_none() {
        guardByNone("r00. f10-0. f20-0.", 0);
        guardByNone("r00. r10-0. r10-0. r10-0. r10-0.", 0);
    }

    static void p30_three_of_three_against() {
        guard("r00. r10-0. r10-0. r10-0.", 0, "1 2 3");
    }

    static void p30_one_against_is_left_to_a_firm_one() {
        guard("f00. r10-0. r10-0. r10-0.", 0, "1 2");
    }

    static void p30_against_a_rock_is_none() {
        guardByNone("r00. k10-0.", 0);
    }

    static void p30_a_rumour_that_none_is_for_is_none() {
        guardByNone("u00.", 0);
        guardByNone("u00. u10+0.", 0);
    }

    static void p30_a_chained_one_alone_is_none() {
        guardByNone("c00.", 0);
        guardByNone("c00. c00.", 0);
        guardByNone("c90.", 0);
    }

    static void p30_the_first_row_of_several() {
        // The RUMOUR FALLS with what is FOR it, too.
        guard("r00. u10-0. r20+1.", 0, "1");
        guard("r00. r10. b20+1. b30-0.", 0, "3");
        guard("u00. r10+0. r20-1. b30. r40-1.", 0, "2 4");
    }

    static void p30_without_a_way_none_stands_surely() {
        guard(JAM + " k20.", 2, "0");
        guard(JAM, 0, "1");
        guardByNone(JAM, 1);
    }

    static void p30_in_a_full_court_behind_day_9() {
        guard("r80.r90-0.r90-0.r90-0.r90.r90.r90.r90.r90.", 0, "1 2 3");
    }

    static void p30_a_missing_row_is_there_then() {
        BackCourt x = busy("r00. r10-0.");
        Check.due("guard(0, 5)", x.guard(0, 5), 1);
        Check.dueRow("guard(0, 5)", x, 5, "1");
        Check.due("guard(1, 0)", x.guard(1, 0), 0);
        Check.due("count(5)", x.count(5), 3);
    }

    static void p30_no_row_6_or_below_0() {
        BackCourt x = busy("r00. u00.");
        Check.bad(x, "guard(0, 6)", () -> x.guard(0, 6));
        Check.bad(x, "guard(0, -1)", () -> x.guard(0, -1));
        Check.bad(x, "guard(1, least)", () -> x.guard(1, Check.LEAST));
    }

    static void p30_no_ruling_past_the_last_or_below_0() {
        BackCourt x = busy("r00. u00.");
        Check.bad(x, "guard(2, 2)", () -> x.guard(2, 2));
        Check.bad(x, "guard(-1, 2)", () -> x.guard(-1, 2));
        Check.bad(x, "guard(greatest, 2)", () -> x.guard(Check.GREATEST, 2));
        BackCourt none = busy("");
        Check.bad(none, "of none", () -> none.guard(0, 2));
    }

    // ---- 31 settle

    static void p31_just_one_way_makes_a_row_of_none() {
        settle("r00. r10-0.", "");
    }

    static void p31_of_no_rulings() {
        settle("", "");
    }

    static void p31_one_two_three_pairs() {
        settle("c00. c00.", "0");
        settle("c00. c00. c10. c10.", "0 2");
        settle("c00. c00. c10. c10. c20. c20.", "0 2 4");
    }

    static void p31_four_pairs_is_none() {
        BackCourt x = busy("c00. c00. c10. c10. c20. c20. c30. c30.");
        Check.still(x, "settle(2)", () -> x.settle(2), Check.NONE);
        Check.still(x, "and no row is made", () -> x.settle(4), Check.NONE);
    }

    static void p31_no_way_is_not_just_one() {
        settle(JAM, "0");
        settle("k00. r00. b10-1.", "1");
    }

    static void p31_two_jams_and_a_pair() {
        settle("r00. b10-0. r00. b10-2. c50. c50.", "0 2 4");
    }

    static void p31_one_that_moves_several_pairs() {
        // Both pairs are bound to the first one.
        settle("r00. c10+0. c10. c20+0. c20.", "0");
    }

    static void p31_in_a_full_court_behind_day_9() {
        settle("c90.c90.c90.r90.u90.f90.k90.c90.c90.", "");
        settle("c90.c90.c90.c90.u90.u90.u90.u90.u90.", "0 1 2");
    }

    static void p31_no_row_6_or_below_0() {
        BackCourt x = busy("c00. c00.");
        Check.bad(x, "settle(6)", () -> x.settle(6));
        Check.bad(x, "settle(-1)", () -> x.settle(-1));
        Check.bad(x, "settle(greatest)", () -> x.settle(Check.GREATEST));
        Check.bad(x, "settle(least)", () -> x.settle(Check.LEAST));
    }

    // ---- 32 matter

    private static void matter(String signs, int i, int want) {
        BackCourt x = busy(signs);
        Check.still(x, "matter(" + i + ") of " + signs, () -> x.matter(i), want);
    }

    static void p32_alone() {
        matter("r00.", 0, 0);
    }

    static void p32_not_to_itself() {
        matter("r00. k10.", 0, 0);
    }

    static void p32_what_falls_as_it_is() {
        matter("r00. u10-0.", 1, 0);
        matter("r00. r10-0. r20-1.", 1, 0);
    }

    static void p32_from_falling_to_standing() {
        matter("r00. r10-0.", 1, 1);
    }

    static void p32_from_standing_to_falling() {
        matter("u00. r10+0.", 1, 1);
        matter("r00. b10+0.", 0, 1);
        matter("r00. b10-0. r20-0.", 0, 0);
    }

    static void p32_from_neither_to_standing_and_falling() {
        matter("c00. r10. c00.", 0, 1);
        matter(JAM + " u20.", 1, 2);
    }

    static void p32_from_sure_to_neither() {
        // Without the ROCK of its DAY the pair STANDS in one WAY of two.
        matter("c00. c00. k00.", 2, 2);
        // Without the one AGAINST the BOUND one there is no WAY.
        matter("r00. b10-0. r20-1. k30.", 2, 3);
    }

    static void p32_neither_stays_neither() {
        matter("c00. c00. k10.", 2, 0);
        matter(JAM + " k20. k30.", 2, 0);
    }

    static void p32_a_rock_left_out_falls() {
        matter("r00. k10-0.", 1, 1);
        matter("k00. b10+0.", 0, 1);
    }

    static void p32_all_eight_others() {
        matter("r00.b10+0.b10+0.b10+0.b10+0.b10+0.b10+0.b10+0.b10+0.", 0, 8);
    }

    static void p32_one_left_out_is_not_of_its_day() {
        matter("c00. r00.", 1, 1);
    }

    static void p32_no_ruling_past_the_last_or_below_0() {
        BackCourt x = busy("r00. r10-0.");
        Check.bad(x, "matter(2)", () -> x.matter(2));
        Check.bad(x, "matter(-1)", () -> x.matter(-1));
        Check.bad(x, "matter(greatest)", () -> x.matter(Check.GREATEST));
        BackCourt none = busy("");
        Check.bad(none, "of none", () -> none.matter(0));
    }

    // ---- 33 judge

    private static void judge(String signs, int day, int many) {
        BackCourt x = busy(signs);
        Check.tells(x, "judge() of " + signs, () -> x.judge(), day, many);
    }

    static void p33_no_rulings_is_state() {
        BackCourt x = busy("");
        Check.still(x, "judge()", () -> x.judge(), Check.STATE);
    }

    static void p33_one_day_alone_matters_to_none() {
        judge("r00.", 0, 0);
        judge("r90. r90. c90.", 9, 0);
    }

    static void p33_of_days_alike_the_first_that_has_rulings() {
        judge("r70. r50. r90.", 5, 0);
        judge("r90. r10. r00. r10-2. r20. r30-4.", 1, 1);
    }

    static void p33_the_last_day() {
        judge("r00. r90-0. r00.", 9, 1);
    }

    static void p33_not_to_those_of_that_day() {
        // Without DAY 0 all three of it are otherwise, and only one of DAY 1.
        judge("r00. r00. r00. b10+0. k20+3. u30.", 0, 1);
    }

    static void p33_all_of_a_day_at_once() {
        // Neither of DAY 1 alone makes the RULING STAND, both do.
        judge("r00. r10-0. r10-0.", 1, 1);
        matter("r00. r10-0. r10-0.", 1, 0);
    }

    static void p33_no_way_left() {
        // Without DAY 2 there is no WAY: all others do neither.
        judge("r00. b10-0. r20-1. k30.", 2, 3);
    }
}
