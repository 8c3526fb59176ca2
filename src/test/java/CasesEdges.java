/** Promises 34 to 38, at their boundaries. */
final class CasesEdges {
    private static final String JAM = "r00. b10-0. k20.";

    private CasesEdges() {
    }

    /** asked() is 7, and the odds 1 by 2 were told. */
    private static BackCourt busy(String signs) {
        BackCourt x = Check.court("c00. c00.");
        x.odds(0);
        Check.write(x, 0, signs);
        x.court(0);
        Check.rowOf(x, 5, 7);
        x.at(5, 0);
        return x;
    }

    // ---- 34 like

    private static void like(String marks, int set, int want) {
        BackCourt x = busy("r00." + marks);
        Check.tells(x, "like(0, " + set + ") of marks " + marks, () -> x.like(0, set), 1, want);
    }

    static void p34_all_of_both() {
        like("01234", 31, 10);
    }

    static void p34_none_of_either() {
        like("", 0, 0);
    }

    static void p34_all_of_one_alone() {
        like("01234", 0, -5);
        like("", 31, -5);
        like("013", 20, -5);
    }

    static void p34_each_mark_is_a_bit() {
        for (int mark = 0; mark < 5; mark++) {
            like("" + mark, 1 << mark, 2);
            like("" + mark, 31 & ~(1 << mark), -5);
        }
    }

    static void p34_as_many_of_both_as_of_one_alone() {
        like("01", 13, -1 + 2 - 2);
        like("012", 7 + 24, 6 - 2);
    }

    static void p34_what_is_like_a_refusal_is_told() {
        like("0", 0, -1);
        like("01", 0, -2);
    }

    static void p34_no_case_32_or_below_0() {
        BackCourt x = busy("r00.0");
        Check.bad(x, "like(0, 32)", () -> x.like(0, 32));
        Check.bad(x, "like(0, -1)", () -> x.like(0, -1));
        Check.bad(x, "like(0, greatest)", () -> x.like(0, Check.GREATEST));
        Check.bad(x, "like(0, least)", () -> x.like(0, Check.LEAST));
    }

    static void p34_no_ruling_past_the_last_or_below_0() {
        BackCourt x = busy("r00.0");
        Check.bad(x, "like(1, 0)", () -> x.like(1, 0));
        Check.bad(x, "like(-1, 0)", () -> x.like(-1, 0));
        Check.bad(x, "like(greatest, 0)", () -> x.like(Check.GREATEST, 0));
        BackCourt none = busy("");
        Check.bad(none, "of none", () -> none.like(0, 0));
    }

    // ---- 35 verdict

    private static void verdict(String signs, int marks, int set, int want) {
        BackCourt x = busy(signs);
        Check.still(x, "verdict(" + marks + ", " + set + ") of " + signs, () -> x.verdict(marks, set), want);
    }

    static void p35_without_any_is_0() {
        verdict("r01.0 r01.", 1, 0, 0);
        verdict("", 31, 0, 0);
        verdict("", 0, 0, 0);
    }

    static void p35_of_one_alone_though_it_is_unlike() {
        verdict("r01.01234", 0, 1, 1);
        verdict("r01.", 31, 1, 1);
        verdict("r00.0 r01.4", 1, 2, 1);
    }

    static void p35_the_likest_one_by_one() {
        verdict("r91.0 r00.01", 3, 3, 0);
        verdict("r91.0 r00.01", 1, 3, 1);
        verdict("r00.0 r91.01", 3, 3, 1);
        verdict("r00.0 r91.01", 1, 3, 0);
    }

    static void p35_of_alike_ones_the_latest_day() {
        verdict("r51.0 r40.0", 1, 3, 1);
        verdict("r40.0 r51.0", 1, 3, 1);
        verdict("r91.0 r00.0 r80.0", 1, 7, 1);
    }

    static void p35_alike_by_other_marks() {
        // Both are like by 1: the DAY, not the MARKS, tells.
        verdict("r51.0 r40.1", 3, 3, 1);
        verdict("r50.0 r41.1", 3, 3, 0);
    }

    static void p35_of_one_day_the_last() {
        verdict("r01.0 r00.0", 1, 3, 0);
        verdict("r00.0 r01.0", 1, 3, 1);
        verdict("r90.0 r90.0 r91.0", 1, 7, 1);
    }

    static void p35_only_of_those_that_stand() {
        verdict("r00.0 r01.0 r00.0", 1, 3, 1);
        verdict("r01.0 r90.0", 1, 1, 1);
    }

    static void p35_any_set_not_only_a_way() {
        verdict("r01. r10-0.", 0, 1, 1);
        verdict("u01.", 0, 1, 1);
    }

    static void p35_no_case_32_or_below_0() {
        BackCourt x = busy("r01. r01.");
        Check.bad(x, "verdict(32, 0)", () -> x.verdict(32, 0));
        Check.bad(x, "verdict(-1, 0)", () -> x.verdict(-1, 0));
        Check.bad(x, "verdict(greatest, 0)", () -> x.verdict(Check.GREATEST, 0));
        Check.bad(x, "verdict(least, 0)", () -> x.verdict(Check.LEAST, 0));
    }

    static void p35_no_set_with_a_ruling_past_the_last() {
        BackCourt x = busy("r01. r01.");
        Check.due("all", x.verdict(31, 3), 1);
        Check.bad(x, "verdict(0, 4)", () -> x.verdict(0, 4));
        Check.bad(x, "verdict(0, -1)", () -> x.verdict(0, -1));
        Check.bad(x, "verdict(0, greatest)", () -> x.verdict(0, Check.GREATEST));
        BackCourt none = busy("");
        Check.bad(none, "of none", () -> none.verdict(0, 1));
    }

    static void p35_of_nine() {
        String nine = "r00.r00.r00.r00.r00.r00.r00.r00.r01.";
        verdict(nine, 0, 511, 1);
        verdict(nine, 0, 256, 1);
        verdict(nine, 0, 255, 0);
    }

    // ---- 36 surely

    private static void surely(String signs, int marks, int want, int ones) {
        BackCourt x = busy(signs);
        Check.tells(x, "surely(" + marks + ") of " + signs, () -> x.surely(marks), want, ones);
    }

    static void p36_in_each_way_1() {
        surely("r01.", 0, 1, 1);
        surely("c01.0 c01.0 k51.1", 31, 1, 2);
    }

    static void p36_in_no_way_1() {
        surely("r00.", 0, 0, 0);
        surely("c00.0 c00.0 k50.1", 1, 0, 0);
    }

    static void p36_in_some_ways_is_none_and_tells() {
        surely("c01.0 c01.0 k50.1", 1, Check.NONE, 1);
        surely("c00.0 c00.0 k51.1", 1, Check.NONE, 1);
        surely("c01.0 c01.0 c11.1 c11.1 k50.", 1, Check.NONE, 2);
    }

    static void p36_in_which_none_stands_is_0() {
        surely("u01.", 0, 0, 0);
        surely("", 31, 0, 0);
        // In one WAY none STANDS.
        surely("c01. c01.", 0, Check.NONE, 1);
    }

    static void p36_of_sixteen() {
        surely("c01.0 c01.0 c00. c00. c20. c20. c30. c30. k90.", 1, Check.NONE, 4);
        surely("c01.0c01.0c10.c10.c20.c20.c30.c30.k90.", 1, Check.NONE, 8);
    }

    static void p36_no_way_is_nought() {
        BackCourt x = busy(JAM);
        Check.finds(x, "surely(0)", () -> x.surely(0), Check.NOUGHT);
    }

    static void p36_no_case_32_or_below_0_ahead_of_nought() {
        BackCourt x = busy(JAM);
        Check.bad(x, "surely(32)", () -> x.surely(32));
        Check.bad(x, "surely(-1)", () -> x.surely(-1));
        BackCourt one = busy("r01.");
        Check.due("the last case", one.surely(31), 1);
        Check.bad(one, "surely(32)", () -> one.surely(32));
        Check.bad(one, "surely(-1)", () -> one.surely(-1));
        Check.bad(one, "surely(greatest)", () -> one.surely(Check.GREATEST));
        Check.bad(one, "surely(least)", () -> one.surely(Check.LEAST));
    }

    // ---- 37 freed

    private static void freed(String signs, int mark, int want) {
        BackCourt x = busy(signs);
        Check.still(x, "freed(" + mark + ") of " + signs, () -> x.freed(mark), want);
    }

    static void p37_half_of_all_cases() {
        // With the MARK the first is the likest; without it both are alike, and the last one tells.
        for (int mark = 0; mark < 5; mark++) {
            freed("k01." + mark + " k00.", mark, 16);
        }
    }

    static void p37_the_case_without_marks_counts_once() {
        // Without the MARK the first is the likest, till the MARK counts no more.
        freed("k01. k00.0", 0, 16);
    }

    static void p37_cases_of_one_other_mark() {
        // The first holds CASES of one MARK at most; without MARK 0 those of none: 1, 2, 3, 4 alone are freed.
        freed("k01. k00.01234", 0, 4);
    }

    static void p37_another_mark_frees_none() {
        freed("k01.0 k00.", 1, 0);
        freed("k01.0 k00.", 4, 0);
    }

    static void p37_alike_then_by_day() {
        freed("k91.0 k00.", 0, 0);
        freed("k01.0 k90.", 0, 16);
    }

    static void p37_only_from_1_to_0() {
        freed("k00.0 k01.", 0, 0);
    }

    static void p37_with_verdict_1_alone_or_0_alone() {
        freed("k01.0 k01.", 0, 0);
        freed("k00.0 k00.", 0, 0);
        freed("k01.0", 0, 0);
    }

    static void p37_where_none_stands() {
        freed("", 0, 0);
        freed("u01.0", 0, 0);
    }

    static void p37_by_the_first_way_alone() {
        // The pair would hold half of all CASES, but in the first WAY it FALLS.
        freed("c11.0 c11.0 k20.", 0, 0);
        freed("c01.0 c01.0 k00.", 0, 16);
    }

    static void p37_no_way_is_nought() {
        BackCourt x = busy(JAM);
        Check.finds(x, "freed(0)", () -> x.freed(0), Check.NOUGHT);
        Check.finds(x, "freed(4)", () -> x.freed(4), Check.NOUGHT);
    }

    static void p37_no_mark_5_or_below_0_ahead_of_nought() {
        BackCourt x = busy(JAM);
        Check.bad(x, "freed(5)", () -> x.freed(5));
        Check.bad(x, "freed(-1)", () -> x.freed(-1));
        BackCourt one = busy("k01.0 k00.");
        Check.bad(one, "freed(5)", () -> one.freed(5));
        Check.bad(one, "freed(-1)", () -> one.freed(-1));
        Check.bad(one, "freed(greatest)", () -> one.freed(Check.GREATEST));
        Check.bad(one, "freed(least)", () -> one.freed(Check.LEAST));
    }

    // ---- 38 code

    private static void code(String signs, int want, int which) {
        BackCourt x = busy(signs);
        Check.tells(x, "code() of " + signs, () -> x.code(), want, which);
    }

    static void p38_none_gives_0() {
        code("k00.0 k00.1", 0, 0);
        code("k00.", 0, 0);
    }

    static void p38_of_no_rulings() {
        code("", 0, 0);
    }

    static void p38_where_none_stands() {
        code("u01.", 0, 0);
    }

    static void p38_one_for_all_the_least() {
        code("k01.0", 1, 1);
        code("k01.0 k01.1 k01.", 1, 1);
    }

    static void p38_all_are_needed() {
        // 1 only with MARK 0 and without MARK 1.
        code("k01.0 k00.1", 2, 3);
    }

    static void p38_the_case_without_marks_alone_has_1() {
        code("k01. k00.0 k00.1 k00.2 k00.3 k00.4", 6, 63);
    }

    static void p38_the_case_of_all_marks_alone_has_1() {
        code("k01.01234 k00.1234 k00.0234 k00.0134 k00.0124 k00.0123", 6, 63);
    }

    static void p38_the_least_of_as_few() {
        code("k01.0 k01.0 k00.1 k00.1", 2, 1 + 4);
    }

    static void p38_fewer_ahead_of_a_lesser_set() {
        // 1 without MARKS 0 and 1 alone: by the first three, too, which are the lesser set, but more.
        code("k00.02 k01.2 k00.12 k00.012", 2, 2 + 8);
    }

    static void p38_none_that_falls_is_taken() {
        // The first would do alone, but it FALLS.
        code("r01.0 k10-0. k01.0", 2, 2 + 4);
        code("u01. k01.", 1, 2);
    }

    static void p38_by_the_first_way_alone() {
        code("c01.0 c01.0 k10.", 0, 0);
    }

    static void p38_no_way_is_nought() {
        BackCourt x = busy(JAM);
        Check.finds(x, "code()", () -> x.code(), Check.NOUGHT);
    }

    static void p38_of_nine_alike() {
        code("k01.k01.k01.k01.k01.k01.k01.k01.k01.", 1, 1);
        code("u01.u01.u01.u01.u01.u01.u01.u01.k01.", 1, 256);
    }
}
