import java.util.function.IntSupplier;

/** Promises 43 to 49, at their boundaries. */
final class ToldEdges {
    private static final int TOLD = 1234;

    private ToldEdges() {
    }

    /** Of two WAYS; asked() is TOLD, and ROW 5 alone is there. */
    private static BackCourt busy() {
        BackCourt x = Check.court("c01.0 c01.0 k50.1 r60-2.");
        Check.rowOf(x, 5, TOLD);
        x.at(5, 0);
        return x;
    }

    private static void tells(BackCourt x, String call, IntSupplier ask, int told) {
        ask.getAsInt();
        Check.due("asked() of " + call, x.asked(), told);
    }

    private static void tellsNothing(BackCourt x, String call, IntSupplier ask, int answer) {
        Check.due(call, ask.getAsInt(), answer);
        Check.due("asked() of " + call, x.asked(), TOLD);
    }

    // ---- 43 asked

    static void p43_0_before() {
        BackCourt x = new BackCourt();
        Check.still(x, "asked()", () -> x.asked(), 0);
    }

    static void p43_each_call_that_tells() {
        BackCourt x = busy();
        tells(x, "lay", () -> x.lay(5, 0, 8), TOLD);
        tells(x, "at", () -> x.at(5, 0), 8);
        tells(x, "ruling", () -> x.ruling(2, 1), 5);
        tells(x, "mean", () -> x.mean(5), 8);
        tells(x, "ways", () -> x.ways(), 12);
        tells(x, "sure", () -> x.sure(), 0);
        tells(x, "till", () -> x.till(5), 4);
        tells(x, "judge", () -> x.judge(), 0);
        tells(x, "like", () -> x.like(2, 29), -5);
        tells(x, "surely", () -> x.surely(1), 1);
        tells(x, "code", () -> x.code(), 0);
        tells(x, "torn", () -> x.torn(1, 1), 15);
    }

    static void p43_calls_of_rows_and_texts_that_tell_nothing() {
        BackCourt x = busy();
        tellsNothing(x, "row", () -> x.row(0, 3), 3);
        tellsNothing(x, "copy", () -> x.copy(0, 0, 5, 0, 1), 1);
        tellsNothing(x, "tear", () -> x.tear(0), 1);
        tellsNothing(x, "text", () -> x.text(1, 4), 4);
        tellsNothing(x, "put", () -> x.put(1, 0, 65), 1032);
        tellsNothing(x, "fault", () -> x.fault(1), 0);
        tellsNothing(x, "court", () -> x.court(0), 4);
    }

    static void p43_calls_of_rulings_that_tell_nothing() {
        BackCourt x = busy();
        tellsNothing(x, "mark", () -> x.mark(2, 5), 2);
        tellsNothing(x, "reverse", () -> x.reverse(0, 0), 1);
        tellsNothing(x, "marks", () -> x.marks(0, 3), 1);
        tellsNothing(x, "file", () -> x.file(0, 0, 0, Check.NONE, 0), 4);
        tellsNothing(x, "strike", () -> x.strike(4), 1);
        tellsNothing(x, "keep", () -> x.keep(0), 4);
        tellsNothing(x, "on", () -> x.on(0), 4);
        tellsNothing(x, "lots", () -> x.lots(2, 1), 6);
    }

    static void p43_calls_of_ways_that_tell_nothing() {
        BackCourt x = busy();
        tellsNothing(x, "due", () -> x.due(0), 12);
        tellsNothing(x, "nth", () -> x.nth(1), 15);
        tellsNothing(x, "odds", () -> x.odds(0), 1);
        tellsNothing(x, "together", () -> x.together(0), 3);
        tellsNothing(x, "flips", () -> x.flips(0), 0);
        tellsNothing(x, "matter", () -> x.matter(0), 1);
        tellsNothing(x, "verdict", () -> x.verdict(1, 3), 1);
        tellsNothing(x, "freed", () -> x.freed(0), 0);
        tellsNothing(x, "kinds", () -> x.kinds(2, 12), 36);
        tellsNothing(x, "forged", () -> x.forged(15), 8);
        tellsNothing(x, "fell", () -> x.fell(0, 0), 1);
        tellsNothing(x, "guard", () -> x.guard(3, 0), 0);
        tellsNothing(x, "settle", () -> x.settle(0), 1);
    }

    static void p43_calls_that_tell_what_is_told_tell_nothing() {
        BackCourt x = busy();
        tellsNothing(x, "asked", () -> x.asked(), TOLD);
        tellsNothing(x, "upper", () -> (int) x.upper(), 0);
        tellsNothing(x, "lower", () -> (int) x.lower(), 1);
        tellsNothing(x, "count", () -> x.count(0), 4);
        tellsNothing(x, "finding", () -> x.finding(), 0);
        tellsNothing(x, "findings", () -> x.findings(1), 0);
        x.digest();
        Check.due("asked() of digest", x.asked(), TOLD);
    }

    static void p43_none_tells_nothing() {
        BackCourt x = busy();
        tellsNothing(x, "fault", () -> x.fault(0), Check.NONE);
        tellsNothing(x, "jam", () -> x.jam(), Check.NONE);
        tellsNothing(x, "fell", () -> x.fell(2, 0), Check.NONE);
        tellsNothing(x, "guard", () -> x.guard(0, 0), Check.NONE);
        Check.write(x, 1, "c00.c00.c10.c10.c20.c20.c30.c30.");
        x.court(1);
        tellsNothing(x, "settle", () -> x.settle(0), Check.NONE);
    }

    static void p43_none_of_surely_tells() {
        BackCourt x = busy();
        Check.tells(x, "surely(1)", () -> x.surely(1), Check.NONE, 1);
    }

    static void p43_none_is_told_by_ways_till_torn_ruling() {
        BackCourt x = Check.court("r00. b10-0.");
        Check.tells(x, "ways()", () -> x.ways(), 0, Check.NONE);
        x.like(0, 0);
        Check.tells(x, "till(1)", () -> x.till(1), 0, Check.NONE);
        x.like(0, 0);
        Check.tells(x, "torn(0, 0)", () -> x.torn(0, 0), 0, Check.NONE);
        x.like(0, 0);
        Check.tells(x, "ruling(0, 3)", () -> x.ruling(0, 3), 1, Check.NONE);
    }

    static void p43_what_is_refused_tells_nothing() {
        BackCourt x = busy();
        x.row(0, 0);
        tellsNothing(x, "lay", () -> x.lay(0, 0, 1), Check.FINDING);
        tellsNothing(x, "at", () -> x.at(1, 0), Check.FINDING);
        tellsNothing(x, "mean", () -> x.mean(0), Check.FINDING);
        tellsNothing(x, "ruling", () -> x.ruling(4, 0), Check.BAD);
        tellsNothing(x, "till", () -> x.till(10), Check.BAD);
        tellsNothing(x, "like", () -> x.like(0, 32), Check.BAD);
        tellsNothing(x, "surely", () -> x.surely(32), Check.BAD);
        tellsNothing(x, "torn", () -> x.torn(16, 0), Check.BAD);
        x.strike(0);
        tellsNothing(x, "judge", () -> x.judge(), Check.STATE);
        Check.write(x, 1, "r00. b10-0.");
        x.court(1);
        tellsNothing(x, "surely", () -> x.surely(0), Check.FINDING);
        tellsNothing(x, "code", () -> x.code(), Check.FINDING);
    }

    // ---- 44 upper, 45 lower

    static void p44_0_before() {
        BackCourt x = new BackCourt();
        Check.due("upper()", x.upper(), 0);
    }

    static void p45_1_before() {
        BackCourt x = new BackCourt();
        Check.due("lower()", x.lower(), 1);
    }

    private static BackCourt ofPairs() {
        return Check.court("c00. c00. c10. c10. k20. u30.");
    }

    static void p44_in_lowest_terms() {
        BackCourt x = ofPairs();
        x.odds(0);
        Check.due("2 of 4: upper()", x.upper(), 1);
        x.odds(4);
        Check.due("4 of 4: upper()", x.upper(), 1);
        x.odds(5);
        Check.due("0 of 4: upper()", x.upper(), 0);
    }

    static void p45_in_lowest_terms() {
        BackCourt x = ofPairs();
        x.odds(0);
        Check.due("2 of 4: lower()", x.lower(), 2);
        x.odds(4);
        Check.due("4 of 4: lower()", x.lower(), 1);
        x.odds(0);
        x.odds(5);
        Check.due("0 of 4: lower()", x.lower(), 1);
    }

    static void p44_stays_by_what_is_refused() {
        BackCourt x = ofPairs();
        x.odds(0);
        Check.bad(x, "odds(6)", () -> x.odds(6));
        Check.due("upper()", x.upper(), 1);
        x.odds(5);
        Check.bad(x, "odds(-1)", () -> x.odds(-1));
        Check.due("upper()", x.upper(), 0);
    }

    static void p45_stays_by_what_is_refused() {
        BackCourt x = ofPairs();
        x.odds(0);
        Check.bad(x, "odds(6)", () -> x.odds(6));
        Check.due("lower()", x.lower(), 2);
        Check.write(x, 1, "r00. b10-0.");
        x.court(1);
        Check.finds(x, "odds(0)", () -> x.odds(0), Check.NOUGHT);
        Check.due("lower()", x.lower(), 2);
    }

    static void p44_stays_by_calls_that_tell_no_fraction() {
        BackCourt x = ofPairs();
        x.odds(0);
        Check.rowOf(x, 0, 9, 8);
        x.mean(0);
        x.ways();
        x.surely(0);
        x.strike(0);
        Check.due("upper()", x.upper(), 1);
    }

    static void p45_stays_by_calls_that_tell_no_fraction() {
        BackCourt x = ofPairs();
        x.odds(0);
        Check.rowOf(x, 0, 9, 8);
        x.mean(0);
        x.ways();
        x.surely(0);
        x.strike(0);
        Check.due("lower()", x.lower(), 2);
    }

    // ---- 46 count

    private static void counts(BackCourt x, int... want) {
        for (int what = 0; what < want.length; what++) {
            int of = what;
            Check.still(x, "count(" + what + ")", () -> x.count(of), want[what]);
        }
    }

    static void p46_of_a_new_object() {
        counts(new BackCourt(), 0, 0, 0, 0, 0, 0, 0, 0);
    }

    static void p46_no_what_8_or_below_0() {
        BackCourt x = busy();
        Check.bad(x, "count(8)", () -> x.count(8));
        Check.bad(x, "count(-1)", () -> x.count(-1));
        Check.bad(x, "count(greatest)", () -> x.count(Check.GREATEST));
        Check.bad(x, "count(least)", () -> x.count(Check.LEAST));
    }

    static void p46_of_each_kind() {
        counts(Check.court("r00."), 1, 0, 0, 0, 0, 0, 1, 0);
        counts(Check.court("b00."), 1, 0, 0, 1, 0, 0, 1, 0);
        counts(Check.court("f00."), 1, 0, 0, 0, 1, 0, 1, 0);
        counts(Check.court("u00."), 1, 0, 0, 0, 0, 0, 1, 0);
        counts(Check.court("c00."), 1, 0, 0, 1, 0, 0, 1, 0);
        counts(Check.court("k00."), 1, 0, 0, 0, 1, 0, 1, 0);
    }

    static void p46_of_citations() {
        counts(Check.court("r00. r10+0."), 2, 1, 0, 0, 0, 0, 1, 0);
        counts(Check.court("r00. r10-0."), 2, 1, 1, 0, 0, 0, 1, 0);
    }

    static void p46_of_nine() {
        counts(Check.court("c00.c10-0.c10-0.c10-0.c10-0.c10-0.c10-0.c10-0.c10-0."), 9, 8, 8, 9, 0, 0, 1, 0);
        counts(Check.court("k00.f10-0.k10-0.k10-0.k10-0.k10+0.f10+0.f10+0.k10-0."), 9, 8, 5, 0, 9, 0, 1, 0);
    }

    static void p46_of_all_rows_texts_and_kept_courts() {
        BackCourt x = busy();
        for (int r = 0; r < 6; r++) {
            x.row(r, 0);
        }
        for (int t = 0; t < 4; t++) {
            x.text(t, 0);
        }
        for (int k = 0; k < 3; k++) {
            x.keep(k);
        }
        counts(x, 4, 1, 1, 2, 1, 6, 4, 3);
        x.tear(5);
        Check.due("count(5)", x.count(5), 5);
    }

    static void p46_anew_counts_once() {
        BackCourt x = busy();
        x.row(0, 1);
        x.row(0, 2);
        x.text(0, 3);
        x.keep(1);
        x.keep(1);
        counts(x, 4, 1, 1, 2, 1, 2, 1, 1);
    }

    static void p46_struck_ones_count_no_more() {
        BackCourt x = busy();
        x.strike(2);
        counts(x, 2, 0, 0, 2, 0, 1, 1, 0);
    }

    // ---- 47 finding, 48 findings

    static void p47_0_before_any() {
        BackCourt x = busy();
        Check.due("finding()", x.finding(), 0);
    }

    static void p47_of_each_the_latest() {
        BackCourt x = busy();
        x.at(0, 0);
        Check.due("NOTHING", x.finding(), 1);
        x.at(5, 1);
        Check.due("BEYOND", x.finding(), 2);
        x.mark(0, 5);
        Check.due("UNLIKE", x.finding(), 3);
        x.nth(2);
        Check.due("NOUGHT", x.finding(), 4);
        x.row(0, -1);
        Check.due("SIZE", x.finding(), 5);
        x.at(0, 0);
        Check.due("NOTHING again", x.finding(), 1);
    }

    static void p47_stays_by_what_is_answered() {
        BackCourt x = busy();
        x.at(0, 0);
        Check.due("an answer", x.row(0, 1), 1);
        Check.due("finding()", x.finding(), 1);
        Check.due("NONE", x.jam(), Check.NONE);
        Check.due("finding()", x.finding(), 1);
    }

    static void p47_bad_full_state_are_none() {
        BackCourt x = Check.court("r00.r00.r00.r00.r00.r00.r00.r00.r00.");
        Check.bad(x, "row(6, 0)", () -> x.row(6, 0));
        Check.still(x, "file", () -> x.file(0, 0, 0, Check.NONE, 0), Check.FULL);
        x.strike(0);
        Check.still(x, "keep(0)", () -> x.keep(0), Check.STATE);
        Check.still(x, "judge()", () -> x.judge(), Check.STATE);
        Check.write(x, 1, "x");
        Check.still(x, "court(1)", () -> x.court(1), Check.STATE);
        Check.due("finding()", x.finding(), 0);
    }

    static void p48_no_finding_0_or_6() {
        BackCourt x = busy();
        x.at(0, 0);
        Check.bad(x, "findings(0)", () -> x.findings(0));
        Check.bad(x, "findings(6)", () -> x.findings(6));
        Check.bad(x, "findings(-1)", () -> x.findings(-1));
        Check.bad(x, "findings(greatest)", () -> x.findings(Check.GREATEST));
        Check.bad(x, "findings(least)", () -> x.findings(Check.LEAST));
    }

    static void p48_never_is_0() {
        BackCourt x = busy();
        for (int f = 1; f <= 5; f++) {
            int of = f;
            Check.still(x, "findings(" + f + ")", () -> x.findings(of), 0);
        }
    }

    static void p48_each_by_itself() {
        BackCourt x = busy();
        x.at(0, 0);
        for (int k = 0; k < 2; k++) {
            x.at(5, 1);
        }
        for (int k = 0; k < 3; k++) {
            x.mark(0, 5);
        }
        for (int k = 0; k < 4; k++) {
            x.nth(2);
        }
        for (int k = 0; k < 5; k++) {
            x.row(0, -1);
        }
        for (int f = 1; f <= 5; f++) {
            Check.due("findings(" + f + ")", x.findings(f), f);
        }
    }

    static void p48_up_to_511() {
        BackCourt x = new BackCourt();
        for (int k = 0; k < 511; k++) {
            x.at(0, 0);
        }
        Check.due("findings(1)", x.findings(1), 511);
    }

    static void p48_what_is_asked_by_others_is_not_counted() {
        // A FAULT, no WAY, a missing row told by NONE or made anew are no FINDINGS.
        BackCourt x = Check.court("r00. b10-0.");
        x.ways();
        x.sure();
        x.till(1);
        x.jam();
        x.flips(0);
        x.fell(0, 0);
        x.settle(1);
        x.torn(0, 0);
        x.judge();
        for (int f = 1; f <= 5; f++) {
            Check.due("findings(" + f + ")", x.findings(f), 0);
        }
    }

    // ---- 49 digest

    private static long join(long... values) {
        long h = 17;
        for (long v : values) {
            h = 31 * h + v;
        }
        return h;
    }

    static void p49_of_a_new_object() {
        long want = join(0, 0, 0, 0, 0, 0, 0, 0, -1, -1, -1, -1, -1, -1, -1, -1, -1, -1, -1, -1, -1);
        Check.due("digest()", new BackCourt().digest(), want);
    }

    static void p49_of_one_ruling() {
        BackCourt x = new BackCourt();
        x.file(3, 9, 1, Check.NONE, 0);
        x.marks(0, 31);
        Check.due("digest()", x.digest(), join(1, 0, 0, 0, 0, 0, 0, 0, 3, 9, 1, -9, 0, 31, 0,
                -1, -1, -1, -1, -1, -1, -1, -1, -1, -1, -1, -1, -1));
    }

    static void p49_of_a_citation_against() {
        BackCourt x = new BackCourt();
        x.file(0, 0, 0, Check.NONE, 0);
        x.file(4, 1, 0, 0, -1);
        Check.due("digest()", x.digest(), join(2, 1, 1, 1, 0, 0, 0, 0, 0, 0, 0, -9, 0, 0, 1, 4, 1, 0, 0, -1, 0, 0,
                -1, -1, -1, -1, -1, -1, -1, -1, -1, -1, -1, -1, -1));
    }

    static void p49_of_kept_courts() {
        BackCourt x = new BackCourt();
        x.file(0, 0, 0, Check.NONE, 0);
        x.keep(0);
        x.file(0, 0, 0, Check.NONE, 0);
        x.keep(2);
        x.strike(0);
        Check.due("digest()", x.digest(), join(0, 0, 0, 0, 0, 0, 0, 2, 1, -1, 2,
                -1, -1, -1, -1, -1, -1, -1, -1, -1, -1));
    }

    static void p49_of_rows_and_texts_of_none() {
        BackCourt x = new BackCourt();
        x.row(0, 0);
        x.row(5, 0);
        x.text(0, 0);
        x.text(3, 0);
        Check.due("digest()", x.digest(), join(0, 0, 0, 0, 0, 2, 2, 0, -1, -1, -1, 0, -1, -1, -1, -1, 0, 0, -1, -1, 0));
    }

    static void p49_of_a_full_row_that_wraps_around() {
        BackCourt x = new BackCourt();
        x.row(2, 40);
        long[] want = new long[8 + 3 + 2 + 1 + 40 + 3 + 4];
        java.util.Arrays.fill(want, -1);
        java.util.Arrays.fill(want, 0, 8, 0);
        want[5] = 1;
        want[13] = 40;
        for (int i = 0; i < 40; i++) {
            want[14 + i] = i % 2 == 0 ? Check.LEAST : Check.GREATEST;
            x.lay(2, i, (int) want[14 + i]);
        }
        Check.due("digest()", x.digest(), join(want));
    }

    static void p49_of_a_full_text_with_bytes_below_0() {
        BackCourt x = new BackCourt();
        x.text(3, 80);
        long[] want = new long[8 + 3 + 6 + 3 + 1 + 80];
        java.util.Arrays.fill(want, -1);
        java.util.Arrays.fill(want, 0, 8, 0);
        want[6] = 1;
        want[20] = 80;
        for (int i = 0; i < 80; i++) {
            want[21 + i] = (byte) (i * 7);
            x.put(3, i, i * 7);
        }
        Check.due("digest()", x.digest(), join(want));
    }

    static void p49_places_that_are_gone_are_not_in_it() {
        BackCourt x = new BackCourt();
        Check.rowOf(x, 0, 5, 6, 7);
        Check.write(x, 0, "abc");
        x.row(0, 1);
        x.text(0, 1);
        BackCourt y = new BackCourt();
        y.row(0, 1);
        y.text(0, 1);
        Check.due("digest()", x.digest(), y.digest());
        x.tear(0);
        y.tear(0);
        Check.due("digest()", x.digest(), y.digest());
    }

    static void p49_a_torn_row_and_a_struck_court_are_as_never_there() {
        BackCourt x = new BackCourt();
        Check.rowOf(x, 3, 5, 6);
        x.tear(3);
        x.lots(9, 7);
        x.strike(0);
        Check.due("digest()", x.digest(), new BackCourt().digest());
    }

    static void p49_what_was_told_and_found_is_not_in_it() {
        BackCourt x = busy();
        long before = x.digest();
        x.like(0, 0);
        x.odds(0);
        x.at(1, 1);
        Check.due("digest()", x.digest(), before);
    }

    static void p49_tells_nothing() {
        BackCourt x = busy();
        Check.still(x, "digest()", () -> (int) (x.digest() & 0), 0);
    }
}
