/** What the document says ahead of its promises: refusals and their order, findings, fractions, sets, sizes, limits. */
final class TermsEdges {
    private static final String JAM = "r00. b10-0. k20.";
    private static final String NINE = "r00.r00.r00.r00.r00.r00.r00.r00.r00.";

    private TermsEdges() {
    }

    /** asked() is 7, and the odds 1 by 2 were told. */
    private static BackCourt busy(String signs) {
        BackCourt x = Check.court("c00. c00.");
        x.odds(0);
        Check.write(x, 0, signs);
        x.court(0);
        Check.rowOf(x, 5, 7);
        x.at(5, 0);
        return x;
    }

    // ---- the numbers

    static void terms_constants() {
        Check.due("BAD", BackCourt.BAD, -1);
        Check.due("FULL", BackCourt.FULL, -2);
        Check.due("FINDING", BackCourt.FINDING, -3);
        Check.due("STATE", BackCourt.STATE, -4);
        Check.due("SPENT", BackCourt.SPENT, -6);
        Check.due("NONE", BackCourt.NONE, -9);
    }

    static void terms_finding_1_nothing_is_a_row_a_text_a_kept_court_that_is_missing() {
        BackCourt x = busy("r00.");
        Check.finds(x, "a row", () -> x.at(0, 0), 1);
        Check.finds(x, "a text", () -> x.put(1, 0, 0), 1);
        Check.finds(x, "a kept court", () -> x.on(0), 1);
    }

    static void terms_finding_2_beyond_is_a_place_that_there_is_not() {
        BackCourt x = busy("r00.");
        Check.finds(x, "of a row", () -> x.at(5, 1), 2);
        Check.finds(x, "of a text", () -> x.put(0, 4, 0), 2);
        Check.finds(x, "below 0", () -> x.at(5, -1), 2);
    }

    static void terms_finding_3_unlike_is_a_ruling_of_another_kind() {
        BackCourt x = busy("r00.");
        Check.finds(x, "mark(0, 1)", () -> x.mark(0, 1), 3);
    }

    static void terms_finding_4_nought_is_shared_among_none_or_no_way() {
        BackCourt x = busy(JAM);
        x.row(0, 0);
        Check.finds(x, "mean(0)", () -> x.mean(0), 4);
        Check.finds(x, "odds(0)", () -> x.odds(0), 4);
        Check.finds(x, "together(0)", () -> x.together(0), 4);
        Check.finds(x, "nth(0)", () -> x.nth(0), 4);
        Check.finds(x, "surely(0)", () -> x.surely(0), 4);
        Check.finds(x, "freed(0)", () -> x.freed(0), 4);
        Check.finds(x, "code()", () -> x.code(), 4);
    }

    static void terms_finding_5_size_is_fewer_than_none() {
        BackCourt x = busy("r00.");
        Check.finds(x, "row(0, -1)", () -> x.row(0, -1), 5);
        Check.finds(x, "text(0, -1)", () -> x.text(0, -1), 5);
        Check.finds(x, "copy of -1", () -> x.copy(5, 0, 5, 0, -1), 5);
    }

    // ---- the order of refusals

    static void terms_bad_goes_ahead_of_full() {
        BackCourt x = busy(NINE);
        Check.bad(x, "file", () -> x.file(6, 0, 0, Check.NONE, 0));
        Check.bad(x, "lots", () -> x.lots(1, 0));
        Check.still(x, "file", () -> x.file(5, 0, 0, Check.NONE, 0), Check.FULL);
        Check.still(x, "lots", () -> x.lots(1, 1), Check.FULL);
    }

    static void terms_bad_goes_ahead_of_state() {
        BackCourt x = busy("");
        Check.bad(x, "keep(3)", () -> x.keep(3));
        Check.still(x, "keep(2)", () -> x.keep(2), Check.STATE);
        Check.write(x, 0, "x");
        Check.bad(x, "court(4)", () -> x.court(4));
        Check.still(x, "court(0)", () -> x.court(0), Check.STATE);
    }

    static void terms_bad_goes_ahead_of_findings() {
        BackCourt x = busy(JAM);
        Check.bad(x, "SIZE: row", () -> x.row(6, -1));
        Check.bad(x, "SIZE: text", () -> x.text(4, -1));
        Check.bad(x, "SIZE: copy", () -> x.copy(0, 0, 6, 0, -1));
        Check.bad(x, "NOTHING: on", () -> x.on(3));
        Check.bad(x, "UNLIKE: mark", () -> x.mark(0, 0));
        Check.bad(x, "NOUGHT: nth", () -> x.nth(-1));
        Check.bad(x, "NOUGHT: odds", () -> x.odds(3));
        Check.bad(x, "NOUGHT: together", () -> x.together(3));
        Check.bad(x, "NOUGHT: surely", () -> x.surely(32));
        Check.bad(x, "NOUGHT: freed", () -> x.freed(5));
    }

    static void terms_state_goes_behind_nothing_in_court_alone() {
        BackCourt x = busy("r00.");
        Check.finds(x, "a missing text has no fault", () -> x.court(1), Check.NOTHING);
        x.text(1, 1);
        x.put(1, 0, 'x');
        Check.still(x, "then it has", () -> x.court(1), Check.STATE);
    }

    static void terms_findings_go_as_they_are_told() {
        BackCourt x = busy("r00.");
        Check.finds(x, "SIZE ahead of NOTHING", () -> x.copy(0, 9, 1, 9, -1), Check.SIZE);
        Check.finds(x, "NOTHING ahead of BEYOND", () -> x.copy(5, 9, 1, 9, 1), Check.NOTHING);
        Check.finds(x, "NOTHING ahead of NOUGHT", () -> x.mean(0), Check.NOTHING);
        Check.finds(x, "BEYOND", () -> x.copy(5, 9, 5, 9, 1), Check.BEYOND);
    }

    // ---- sets

    static void terms_sets_of_rulings_up_to_bit_8() {
        BackCourt x = busy(NINE);
        Check.due("due(256)", x.due(256), 511);
        Check.due("nth(0)", x.nth(0), 511);
        Check.due("sure()", x.sure(), 511);
        Check.due("together(8)", x.together(8), 511);
        Check.due("torn(256, 256)", x.torn(256, 256), 1);
        Check.bad(x, "512", () -> x.due(512));
    }

    static void terms_sets_of_marks_up_to_bit_4() {
        BackCourt x = busy("r01.4");
        Check.dueRuling(x, 0, 0, 0, 1, Check.NONE, 0, 16);
        Check.tells(x, "like(0, 16)", () -> x.like(0, 16), 1, 2);
        Check.bad(x, "32", () -> x.like(0, 32));
    }

    static void terms_sets_of_kinds_up_to_bit_5() {
        BackCourt x = busy("r00. k10-0. k10-0.");
        Check.due("a rock alone", x.kinds(0, 7), 32);
    }

    // ---- fractions

    static void terms_fractions_have_a_lower_number_above_0() {
        BackCourt x = busy("u00.");
        Check.due("odds(0)", x.odds(0), 1);
        Check.due("upper()", x.upper(), 0);
        Check.due("lower()", x.lower(), 1);
    }

    // ---- rulings, ways

    static void terms_a_rumour_from_ahead_is_due_by_later_days_alone() {
        // What STANDS of the last DAY on makes what is ahead of it FALL, STAND, FALL.
        BackCourt x = busy("r00. r10-0. r20-1. r30-2.");
        Check.tells(x, "ways()", () -> x.ways(), 1, 2 + 8);
    }

    static void terms_a_chained_one_is_a_bound_one() {
        BackCourt x = busy("u00. c10+0. k10.");
        Check.tells(x, "what it cites falls", () -> x.ways(), 2, 4);
        BackCourt y = busy("r00. c10+0. k10. k20-0.");
        Check.tells(y, "what it cites falls", () -> y.ways(), 1, 4 + 8);
    }

    static void terms_a_rock_is_a_firm_one_that_always_stands() {
        BackCourt x = busy("k00. k10-0. k10-0. k10-0.");
        Check.tells(x, "ways()", () -> x.ways(), 1, 15);
        Check.due("count(4)", x.count(4), 4);
        Check.due("mark(0, 2)", x.mark(0, 2), 3);
    }

    // ---- what was asked before

    private static final String[] COURTS = {"u00. k10+0. b20+1. c20+0.", "u00. k10. b20. c20.", "f00. k10-0. r20-0. u20+1.",
        "c00. c00. r50-0. b50+1.", "r00. b10-0. r20. u30-2.", "k90. k80. k70. k60."};

    /** Of a COURT of four all that can be asked without changing it, but for ROWS. */
    private static long[] answers(BackCourt x) {
        long[] all = new long[130];
        int n = 0;
        for (int set = 0; set < 16; set++) {
            all[n++] = x.due(set);
            all[n++] = x.forged(set);
            all[n++] = x.torn(set, 15);
        }
        for (int i = 0; i < 4; i++) {
            all[n++] = x.matter(i);
            all[n++] = x.kinds(i, 15);
            all[n++] = x.kinds(i, 6);
            all[n++] = x.flips(i);
            all[n++] = x.fell(i, 0);
            all[n++] = x.guard(i, 0);
            all[n++] = x.odds(i);
            all[n++] = x.together(i);
            all[n++] = x.mark(i, 5);
        }
        for (int day = 0; day < 10; day++) {
            all[n++] = x.till(day);
        }
        all[n++] = x.judge();
        all[n++] = x.settle(0);
        all[n++] = x.jam();
        all[n++] = x.kinds(3, 9);
        all[n++] = x.sure();
        all[n++] = x.ways();
        all[n++] = x.code();
        all[n++] = x.freed(0);
        return all;
    }

    static void terms_what_was_asked_of_the_court_before_leaves_nothing() {
        for (String before : COURTS) {
            for (String signs : COURTS) {
                long[] want = answers(Check.court(signs));
                BackCourt x = Check.court(before);
                answers(x);
                Check.write(x, 0, signs);
                x.court(0);
                Check.holds(signs + " behind " + before, java.util.Arrays.equals(answers(x), want));
            }
        }
    }

    static void terms_days_not_told_and_rulings_left_out_are_there_again() {
        for (String signs : COURTS) {
            long[] want = answers(Check.court(signs));
            BackCourt x = Check.court(signs);
            for (int day = 0; day < 10; day++) {
                x.till(day);
                Check.due("due(15) behind till(" + day + ") of " + signs, x.due(15), Check.court(signs).due(15));
            }
            x.till(0);
            Check.holds("behind till(0) of " + signs, java.util.Arrays.equals(answers(x), want));
            x.matter(0);
            Check.due("due(15) behind matter(0) of " + signs, x.due(15), Check.court(signs).due(15));
        }
    }

    static void terms_what_is_asked_twice_is_answered_alike() {
        for (String signs : COURTS) {
            BackCourt x = Check.court(signs);
            Check.holds(signs, java.util.Arrays.equals(answers(x), answers(x)));
        }
    }

    // ---- lots

    static void terms_lots_go_on_from_the_number_ahead() {
        // Behind a seed of 182605794 comes 1291394886: KIND 0, DAY 0, VERDICT 0.
        BackCourt x = busy("");
        x.lots(1, 182605794);
        Check.dueRuling(x, 0, 0, 0, 0, Check.NONE, 0, 0, 0);
    }

    // ---- limits

    static void terms_512_calls_are_answered() {
        BackCourt x = new BackCourt();
        x.lots(9, 5);
        long first = x.digest();
        for (int call = 3; call < 511; call++) {
            x.fell(call % 9, call % 6);
        }
        x.tear(0);
        Check.due("the 512th call", x.count(0), 9);
        Check.holds("a digest", first != 0);
    }

    static void terms_what_is_kept_is_not_seen_by_what_is_refused() {
        BackCourt x = busy("r01.012 b10-0. r20-1.4");
        x.keep(1);
        long kept = x.digest();
        x.keep(3);
        x.on(0);
        x.court(3);
        x.file(0, 0, 0, 0, 1);
        x.strike(4);
        x.marks(0, 32);
        x.reverse(0, 2);
        x.lots(7, 1);
        Check.due("on(1)", x.on(1), 3);
        Check.due("digest()", x.digest(), kept);
    }
}
