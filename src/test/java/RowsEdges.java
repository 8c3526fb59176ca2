/** Promises 1 to 9, at their boundaries. */
final class RowsEdges {
    private RowsEdges() {
    }

    /** ROW 0 is 4 5 6, ROW 3 is 7 8; asked() is 6, and the odds 1 by 2 were told. */
    private static BackCourt withRows() {
        BackCourt x = Check.court("c01.0 c01.0 k50.1");
        x.odds(0);
        Check.rowOf(x, 0, 4, 5, 6);
        Check.rowOf(x, 3, 7, 8);
        x.at(0, 2);
        return x;
    }

    private static BackCourt withText(int size) {
        BackCourt x = withRows();
        x.text(2, size);
        return x;
    }

    // ---- 1 a new object

    static void p01_there_are_no_rulings() {
        BackCourt x = new BackCourt();
        Check.due("count(0)", x.count(0), 0);
        Check.bad(x, "ruling(0, 0)", () -> x.ruling(0, 0));
        Check.due("strike(0)", x.strike(0), 0);
    }

    static void p01_no_row_is_there() {
        for (int r = 0; r < 6; r++) {
            BackCourt x = new BackCourt();
            int row = r;
            Check.finds(x, "at(" + r + ", 0)", () -> x.at(row, 0), Check.NOTHING);
        }
    }

    static void p01_no_text_is_there() {
        for (int t = 0; t < 4; t++) {
            BackCourt x = new BackCourt();
            int text = t;
            Check.finds(x, "fault(" + t + ")", () -> x.fault(text), Check.NOTHING);
        }
    }

    static void p01_no_court_is_kept() {
        for (int k = 0; k < 3; k++) {
            BackCourt x = new BackCourt();
            int place = k;
            Check.finds(x, "on(" + k + ")", () -> x.on(place), Check.NOTHING);
        }
    }

    static void p01_every_count_is_0() {
        BackCourt x = new BackCourt();
        for (int what = 0; what <= 7; what++) {
            Check.due("count(" + what + ")", x.count(what), 0);
        }
    }

    static void p01_objects_share_nothing() {
        BackCourt x = withText(3);
        x.keep(0);
        x.at(5, 0);
        BackCourt y = new BackCourt();
        Check.due("digest()", y.digest(), new BackCourt().digest());
        Check.due("asked()", y.asked(), 0);
        Check.due("lower()", y.lower(), 1);
        Check.due("finding()", y.finding(), 0);
        Check.due("count(0) of the other", x.count(0), 3);
    }

    // ---- 2 row

    static void p02_a_row_of_none_is_there() {
        BackCourt x = new BackCourt();
        Check.due("row(1, 0)", x.row(1, 0), 0);
        Check.due("count(5)", x.count(5), 1);
        Check.finds(x, "at(1, 0)", () -> x.at(1, 0), Check.BEYOND);
    }

    static void p02_a_row_of_40_has_40_places() {
        BackCourt x = new BackCourt();
        Check.due("row(1, 40)", x.row(1, 40), 40);
        for (int i = 0; i < 40; i++) {
            int place = i;
            Check.tells(x, "at(1, " + i + ")", () -> x.at(1, place), 1, 0);
        }
        Check.finds(x, "at(1, 40)", () -> x.at(1, 40), Check.BEYOND);
    }

    static void p02_a_row_of_41_is_bad() {
        BackCourt x = withRows();
        Check.bad(x, "row(0, 41)", () -> x.row(0, 41));
        Check.bad(x, "row(0, greatest)", () -> x.row(0, Check.GREATEST));
        Check.bad(x, "row(1, 41), a missing one", () -> x.row(1, 41));
    }

    static void p02_a_row_of_fewer_than_none_is_size() {
        BackCourt x = withRows();
        Check.finds(x, "row(0, -1)", () -> x.row(0, -1), Check.SIZE);
        Check.finds(x, "row(0, least)", () -> x.row(0, Check.LEAST), Check.SIZE);
        Check.finds(x, "row(1, -1), a missing one", () -> x.row(1, -1), Check.SIZE);
    }

    static void p02_rows_go_from_0_to_5() {
        BackCourt x = withRows();
        Check.due("row(0, 1)", x.row(0, 1), 1);
        Check.due("row(5, 1)", x.row(5, 1), 1);
        Check.bad(x, "row(6, 1)", () -> x.row(6, 1));
        Check.bad(x, "row(-1, 1)", () -> x.row(-1, 1));
        Check.bad(x, "row(least, 1)", () -> x.row(Check.LEAST, 1));
        Check.bad(x, "row(greatest, 1)", () -> x.row(Check.GREATEST, 1));
    }

    static void p02_bad_goes_ahead_of_size() {
        BackCourt x = withRows();
        Check.bad(x, "row(6, -1)", () -> x.row(6, -1));
        Check.bad(x, "row(-1, -1)", () -> x.row(-1, -1));
    }

    static void p02_a_row_anew_is_all_0() {
        BackCourt x = withRows();
        Check.due("row(0, 1)", x.row(0, 1), 1);
        Check.dueRow("of 1", x, 0, "0");
        Check.due("row(0, 4)", x.row(0, 4), 4);
        Check.dueRow("of 4", x, 0, "0 0 0 0");
        Check.dueRow("another one as it was", x, 3, "7 8");
    }

    static void p02_a_row_tells_nothing() {
        BackCourt x = withRows();
        x.row(0, 2);
        Check.due("asked()", x.asked(), 6);
    }

    // ---- 3 lay

    static void p03_first_and_last_place() {
        BackCourt x = withRows();
        Check.tells(x, "lay(0, 0, 9)", () -> x.lay(0, 0, 9), 1, 4);
        Check.tells(x, "lay(0, 2, 8)", () -> x.lay(0, 2, 8), 1, 6);
        Check.dueRow("laid", x, 0, "9 5 8");
    }

    static void p03_the_last_of_40_places() {
        BackCourt x = new BackCourt();
        x.row(5, 40);
        Check.tells(x, "lay(5, 39, 3)", () -> x.lay(5, 39, 3), 1, 0);
        Check.tells(x, "at(5, 39)", () -> x.at(5, 39), 1, 3);
        Check.finds(x, "lay(5, 40, 3)", () -> x.lay(5, 40, 3), Check.BEYOND);
    }

    static void p03_a_place_past_the_last_is_beyond() {
        BackCourt x = withRows();
        Check.finds(x, "lay(0, 3, 1)", () -> x.lay(0, 3, 1), Check.BEYOND);
        Check.finds(x, "lay(0, greatest, 1)", () -> x.lay(0, Check.GREATEST, 1), Check.BEYOND);
    }

    static void p03_a_place_below_0_is_beyond() {
        BackCourt x = withRows();
        Check.finds(x, "lay(0, -1, 1)", () -> x.lay(0, -1, 1), Check.BEYOND);
        Check.finds(x, "lay(0, least, 1)", () -> x.lay(0, Check.LEAST, 1), Check.BEYOND);
    }

    static void p03_a_row_of_none_has_no_place() {
        BackCourt x = withRows();
        x.row(1, 0);
        Check.finds(x, "lay(1, 0, 1)", () -> x.lay(1, 0, 1), Check.BEYOND);
    }

    static void p03_places_that_a_row_had_are_gone() {
        BackCourt x = withRows();
        x.row(0, 1);
        Check.finds(x, "lay(0, 1, 1)", () -> x.lay(0, 1, 1), Check.BEYOND);
    }

    static void p03_a_missing_row_is_nothing_ahead_of_beyond() {
        BackCourt x = withRows();
        Check.finds(x, "lay(1, 0, 1)", () -> x.lay(1, 0, 1), Check.NOTHING);
        Check.finds(x, "lay(1, -1, 1)", () -> x.lay(1, -1, 1), Check.NOTHING);
        Check.finds(x, "lay(1, 40, 1)", () -> x.lay(1, 40, 1), Check.NOTHING);
    }

    static void p03_no_row_6_or_below_0() {
        BackCourt x = withRows();
        Check.bad(x, "lay(6, 0, 1)", () -> x.lay(6, 0, 1));
        Check.bad(x, "lay(-1, 0, 1)", () -> x.lay(-1, 0, 1));
        Check.bad(x, "lay(greatest, 0, 1)", () -> x.lay(Check.GREATEST, 0, 1));
        Check.bad(x, "lay(least, -1, 1), bad ahead of beyond", () -> x.lay(Check.LEAST, -1, 1));
    }

    static void p03_any_int_is_laid_whole() {
        BackCourt x = withRows();
        Check.tells(x, "lay least", () -> x.lay(0, 1, Check.LEAST), 1, 5);
        Check.tells(x, "lay greatest", () -> x.lay(0, 1, Check.GREATEST), 1, Check.LEAST);
        Check.tells(x, "lay -9", () -> x.lay(0, 1, Check.NONE), 1, Check.GREATEST);
        Check.tells(x, "what was like NONE", () -> x.lay(0, 1, -1), 1, Check.NONE);
        Check.tells(x, "what was like BAD", () -> x.lay(0, 1, 0), 1, -1);
    }

    // ---- 4 at

    static void p04_first_and_last_place() {
        BackCourt x = withRows();
        Check.tells(x, "at(0, 0)", () -> x.at(0, 0), 1, 4);
        Check.tells(x, "at(0, 2)", () -> x.at(0, 2), 1, 6);
        Check.tells(x, "at(3, 1)", () -> x.at(3, 1), 1, 8);
    }

    static void p04_what_is_like_a_refusal_is_told() {
        BackCourt x = withRows();
        x.lay(0, 0, -3);
        Check.tells(x, "at(0, 0)", () -> x.at(0, 0), 1, -3);
    }

    static void p04_a_place_past_the_last_is_beyond() {
        BackCourt x = withRows();
        Check.finds(x, "at(0, 3)", () -> x.at(0, 3), Check.BEYOND);
        Check.finds(x, "at(0, greatest)", () -> x.at(0, Check.GREATEST), Check.BEYOND);
    }

    static void p04_a_place_below_0_is_beyond() {
        BackCourt x = withRows();
        Check.finds(x, "at(0, -1)", () -> x.at(0, -1), Check.BEYOND);
        Check.finds(x, "at(0, least)", () -> x.at(0, Check.LEAST), Check.BEYOND);
    }

    static void p04_a_missing_row_is_nothing_ahead_of_beyond() {
        BackCourt x = withRows();
        Check.finds(x, "at(1, 0)", () -> x.at(1, 0), Check.NOTHING);
        Check.finds(x, "at(1, -1)", () -> x.at(1, -1), Check.NOTHING);
    }

    static void p04_no_row_6_or_below_0() {
        BackCourt x = withRows();
        Check.bad(x, "at(6, 0)", () -> x.at(6, 0));
        Check.bad(x, "at(-1, 0)", () -> x.at(-1, 0));
        Check.bad(x, "at(greatest, 99)", () -> x.at(Check.GREATEST, 99));
        Check.bad(x, "at(least, -1)", () -> x.at(Check.LEAST, -1));
    }

    // ---- 5 tear

    static void p05_a_torn_row_is_missing() {
        BackCourt x = withRows();
        Check.due("tear(0)", x.tear(0), 1);
        Check.due("count(5)", x.count(5), 1);
        Check.finds(x, "at(0, 0)", () -> x.at(0, 0), Check.NOTHING);
        Check.dueRow("another one as it was", x, 3, "7 8");
    }

    static void p05_a_row_of_none_can_be_torn() {
        BackCourt x = withRows();
        x.row(5, 0);
        Check.due("tear(5)", x.tear(5), 1);
        Check.due("count(5)", x.count(5), 2);
    }

    static void p05_a_missing_row_is_nothing() {
        BackCourt x = withRows();
        Check.finds(x, "tear(1)", () -> x.tear(1), Check.NOTHING);
        x.tear(0);
        Check.finds(x, "tear(0) again", () -> x.tear(0), Check.NOTHING);
    }

    static void p05_no_row_6_or_below_0() {
        BackCourt x = withRows();
        Check.bad(x, "tear(6)", () -> x.tear(6));
        Check.bad(x, "tear(-1)", () -> x.tear(-1));
        Check.bad(x, "tear(greatest)", () -> x.tear(Check.GREATEST));
        Check.bad(x, "tear(least)", () -> x.tear(Check.LEAST));
    }

    static void p05_a_row_behind_a_torn_one_is_all_0() {
        BackCourt x = withRows();
        x.tear(0);
        x.row(0, 3);
        Check.dueRow("anew", x, 0, "0 0 0");
    }

    // ---- 6 copy

    static void p06_between_two_rows() {
        BackCourt x = withRows();
        Check.due("copy(0, 1, 3, 0, 2)", x.copy(0, 1, 3, 0, 2), 1);
        Check.dueRow("to", x, 3, "5 6");
        Check.dueRow("from", x, 0, "4 5 6");
    }

    static void p06_within_one_row_forward_as_if_taken_ahead() {
        BackCourt x = new BackCourt();
        Check.rowOf(x, 0, 1, 2, 3, 4, 5);
        Check.due("copy(0, 0, 0, 1, 4)", x.copy(0, 0, 0, 1, 4), 1);
        Check.dueRow("forward", x, 0, "1 1 2 3 4");
    }

    static void p06_within_one_row_backward_as_if_taken_ahead() {
        BackCourt x = new BackCourt();
        Check.rowOf(x, 0, 1, 2, 3, 4, 5);
        Check.due("copy(0, 1, 0, 0, 4)", x.copy(0, 1, 0, 0, 4), 1);
        Check.dueRow("backward", x, 0, "2 3 4 5 5");
    }

    static void p06_all_40_places() {
        BackCourt x = new BackCourt();
        x.row(0, 40);
        x.row(1, 40);
        x.lay(0, 0, 3);
        x.lay(0, 39, 4);
        Check.due("copy(0, 0, 1, 0, 40)", x.copy(0, 0, 1, 0, 40), 1);
        Check.tells(x, "at(1, 0)", () -> x.at(1, 0), 1, 3);
        Check.tells(x, "at(1, 39)", () -> x.at(1, 39), 1, 4);
        Check.finds(x, "41 places", () -> x.copy(0, 0, 1, 0, 41), Check.BEYOND);
    }

    static void p06_no_places_change_nothing() {
        BackCourt x = withRows();
        Check.still(x, "copy(0, 0, 3, 0, 0)", () -> x.copy(0, 0, 3, 0, 0), 1);
        Check.still(x, "from behind the last to behind the last", () -> x.copy(0, 3, 3, 2, 0), 1);
        x.row(1, 0);
        Check.still(x, "of a row of none", () -> x.copy(1, 0, 1, 0, 0), 1);
    }

    static void p06_no_places_from_further_on_are_beyond() {
        BackCourt x = withRows();
        Check.finds(x, "from", () -> x.copy(0, 4, 3, 0, 0), Check.BEYOND);
        Check.finds(x, "to", () -> x.copy(0, 0, 3, 3, 0), Check.BEYOND);
        Check.finds(x, "from below 0", () -> x.copy(0, -1, 3, 0, 0), Check.BEYOND);
        Check.finds(x, "to below 0", () -> x.copy(0, 0, 3, -1, 0), Check.BEYOND);
    }

    static void p06_one_more_than_there_are_is_beyond() {
        BackCourt x = withRows();
        Check.finds(x, "from", () -> x.copy(3, 0, 0, 0, 3), Check.BEYOND);
        Check.finds(x, "to", () -> x.copy(0, 0, 3, 0, 3), Check.BEYOND);
        Check.finds(x, "from the last on", () -> x.copy(0, 2, 3, 0, 2), Check.BEYOND);
        Check.finds(x, "to the last on", () -> x.copy(0, 0, 3, 1, 2), Check.BEYOND);
        Check.finds(x, "to itself", () -> x.copy(0, 0, 0, 1, 3), Check.BEYOND);
    }

    static void p06_a_place_below_0_is_beyond() {
        BackCourt x = withRows();
        Check.finds(x, "from", () -> x.copy(0, -1, 3, 0, 1), Check.BEYOND);
        Check.finds(x, "to", () -> x.copy(0, 0, 3, -1, 1), Check.BEYOND);
        Check.finds(x, "least", () -> x.copy(0, Check.LEAST, 3, Check.LEAST, 1), Check.BEYOND);
    }

    static void p06_places_that_wrap_around_are_beyond() {
        BackCourt x = withRows();
        Check.finds(x, "n", () -> x.copy(0, 1, 3, 1, Check.GREATEST), Check.BEYOND);
        Check.finds(x, "from", () -> x.copy(0, Check.GREATEST, 3, 0, 1), Check.BEYOND);
        Check.finds(x, "to", () -> x.copy(0, 0, 3, Check.GREATEST, 1), Check.BEYOND);
        Check.finds(x, "all", () -> x.copy(0, Check.GREATEST, 3, Check.GREATEST, Check.GREATEST), Check.BEYOND);
    }

    static void p06_fewer_than_none_is_size_ahead_of_nothing_and_beyond() {
        BackCourt x = withRows();
        Check.finds(x, "n -1", () -> x.copy(0, 0, 3, 0, -1), Check.SIZE);
        Check.finds(x, "n least", () -> x.copy(0, 0, 3, 0, Check.LEAST), Check.SIZE);
        Check.finds(x, "from a missing one", () -> x.copy(1, 0, 3, 0, -1), Check.SIZE);
        Check.finds(x, "to a missing one", () -> x.copy(0, 0, 1, 0, -1), Check.SIZE);
        Check.finds(x, "beyond", () -> x.copy(0, 9, 3, 9, -1), Check.SIZE);
    }

    static void p06_either_row_missing_is_nothing_ahead_of_beyond() {
        BackCourt x = withRows();
        Check.finds(x, "from", () -> x.copy(1, 0, 3, 0, 1), Check.NOTHING);
        Check.finds(x, "to", () -> x.copy(0, 0, 1, 0, 1), Check.NOTHING);
        Check.finds(x, "both", () -> x.copy(1, 0, 1, 0, 0), Check.NOTHING);
        Check.finds(x, "from, and beyond", () -> x.copy(1, 0, 3, 9, 1), Check.NOTHING);
        Check.finds(x, "to, and beyond", () -> x.copy(0, -1, 1, 0, 1), Check.NOTHING);
    }

    static void p06_bad_goes_ahead_of_size() {
        BackCourt x = withRows();
        Check.bad(x, "from 6", () -> x.copy(6, 0, 3, 0, -1));
        Check.bad(x, "from -1", () -> x.copy(-1, 0, 3, 0, 1));
        Check.bad(x, "to 6", () -> x.copy(0, 0, 6, 0, 1));
        Check.bad(x, "to -1", () -> x.copy(0, 0, -1, 0, -1));
        Check.bad(x, "to -1 from a missing one", () -> x.copy(1, 0, -1, 0, 1));
    }

    // ---- 7 mean

    private static void mean(int want, int... values) {
        BackCourt x = new BackCourt();
        Check.rowOf(x, 4, values);
        Check.tells(x, "mean of " + java.util.Arrays.toString(values), () -> x.mean(4), 1, want);
    }

    static void p07_of_one() {
        mean(0, 0);
        mean(-9, -9);
        mean(Check.LEAST, Check.LEAST);
        mean(Check.GREATEST, Check.GREATEST);
    }

    static void p07_is_cut_above_0() {
        mean(1, 1, 2);
        mean(2, 3, 3, 2);
        mean(0, 0, 1, 1, 1);
    }

    static void p07_is_cut_toward_0_below_0() {
        mean(-1, -1, -2);
        mean(0, 0, -1);
        mean(-2, -3, -3, -2);
    }

    static void p07_does_not_wrap_around() {
        mean(Check.GREATEST, Check.GREATEST, Check.GREATEST);
        mean(Check.LEAST, Check.LEAST, Check.LEAST, Check.LEAST);
        mean(0, Check.GREATEST, Check.LEAST);
    }

    static void p07_of_40_does_not_wrap_around() {
        BackCourt x = new BackCourt();
        x.row(0, 40);
        for (int i = 0; i < 40; i++) {
            x.lay(0, i, Check.LEAST);
        }
        Check.tells(x, "mean(0)", () -> x.mean(0), 1, Check.LEAST);
    }

    static void p07_of_none_is_nought() {
        BackCourt x = withRows();
        x.row(1, 0);
        Check.finds(x, "mean(1)", () -> x.mean(1), Check.NOUGHT);
    }

    static void p07_of_a_missing_one_is_nothing() {
        BackCourt x = withRows();
        Check.finds(x, "mean(1)", () -> x.mean(1), Check.NOTHING);
    }

    static void p07_no_row_6_or_below_0() {
        BackCourt x = withRows();
        Check.bad(x, "mean(6)", () -> x.mean(6));
        Check.bad(x, "mean(-1)", () -> x.mean(-1));
        Check.bad(x, "mean(greatest)", () -> x.mean(Check.GREATEST));
        Check.bad(x, "mean(least)", () -> x.mean(Check.LEAST));
    }

    static void p07_does_not_see_places_that_are_gone() {
        BackCourt x = withRows();
        x.row(0, 1);
        Check.tells(x, "mean(0)", () -> x.mean(0), 1, 0);
    }

    // ---- 8 text

    static void p08_a_text_of_none_is_there() {
        BackCourt x = withRows();
        int before = x.count(6);
        Check.due("text(1, 0)", x.text(1, 0), 0);
        Check.due("count(6)", x.count(6), before + 1);
        Check.finds(x, "put(1, 0, 1)", () -> x.put(1, 0, 1), Check.BEYOND);
    }

    static void p08_a_text_of_80_is_80_blanks() {
        BackCourt x = new BackCourt();
        Check.due("text(3, 80)", x.text(3, 80), 80);
        for (int i = 0; i < 80; i++) {
            Check.due("put(3, " + i + ", 1)", x.put(3, i, 1), 1032);
        }
        Check.finds(x, "put(3, 80, 1)", () -> x.put(3, 80, 1), Check.BEYOND);
    }

    static void p08_a_text_of_81_is_bad() {
        BackCourt x = withText(4);
        Check.bad(x, "text(2, 81)", () -> x.text(2, 81));
        Check.bad(x, "text(2, greatest)", () -> x.text(2, Check.GREATEST));
        Check.bad(x, "text(1, 81), a missing one", () -> x.text(1, 81));
    }

    static void p08_a_text_of_fewer_than_none_is_size() {
        BackCourt x = withText(4);
        Check.finds(x, "text(2, -1)", () -> x.text(2, -1), Check.SIZE);
        Check.finds(x, "text(2, least)", () -> x.text(2, Check.LEAST), Check.SIZE);
        Check.finds(x, "text(1, -1), a missing one", () -> x.text(1, -1), Check.SIZE);
    }

    static void p08_texts_go_from_0_to_3() {
        BackCourt x = withText(4);
        Check.due("text(0, 1)", x.text(0, 1), 1);
        Check.due("text(3, 1)", x.text(3, 1), 1);
        Check.bad(x, "text(4, 1)", () -> x.text(4, 1));
        Check.bad(x, "text(-1, 1)", () -> x.text(-1, 1));
        Check.bad(x, "text(greatest, 1)", () -> x.text(Check.GREATEST, 1));
        Check.bad(x, "text(least, 1)", () -> x.text(Check.LEAST, 1));
    }

    static void p08_bad_goes_ahead_of_size() {
        BackCourt x = withText(4);
        Check.bad(x, "text(4, -1)", () -> x.text(4, -1));
        Check.bad(x, "text(-1, -1)", () -> x.text(-1, -1));
    }

    static void p08_a_text_anew_is_all_blanks() {
        BackCourt x = withText(3);
        x.put(2, 0, 65);
        x.put(2, 2, 66);
        x.text(2, 1);
        Check.due("text(2, 3)", x.text(2, 3), 3);
        for (int i = 0; i < 3; i++) {
            Check.due("put(2, " + i + ", 1)", x.put(2, i, 1), 1032);
        }
    }

    static void p08_bytes_that_a_text_had_are_gone() {
        BackCourt x = withText(3);
        x.text(2, 1);
        Check.finds(x, "put(2, 1, 1)", () -> x.put(2, 1, 1), Check.BEYOND);
    }

    // ---- 9 put

    static void p09_first_and_last_byte() {
        BackCourt x = withText(80);
        Check.due("put(2, 0, 65)", x.put(2, 0, 65), 1032);
        Check.due("put(2, 79, 66)", x.put(2, 79, 66), 1032);
        Check.due("put(2, 0, 1)", x.put(2, 0, 1), 1065);
        Check.due("put(2, 79, 1)", x.put(2, 79, 1), 1066);
    }

    private static void cut(int v, int want) {
        BackCourt x = withText(1);
        x.put(2, 0, v);
        Check.due("what " + v + " was cut to", x.put(2, 0, 0), want + 1000);
    }

    static void p09_127_is_a_byte_and_128_wraps_around() {
        cut(127, 127);
        cut(128, -128);
    }

    static void p09_minus_128_is_a_byte_and_minus_129_wraps_around() {
        cut(-128, -128);
        cut(-129, 127);
        cut(-1, -1);
    }

    static void p09_above_a_byte_is_cut() {
        cut(255, -1);
        cut(256, 0);
        cut(300, 44);
        cut(Check.GREATEST, -1);
        cut(Check.LEAST, 0);
    }

    static void p09_a_place_past_the_last_is_beyond() {
        BackCourt x = withText(3);
        Check.finds(x, "put(2, 3, 1)", () -> x.put(2, 3, 1), Check.BEYOND);
        Check.finds(x, "put(2, greatest, 1)", () -> x.put(2, Check.GREATEST, 1), Check.BEYOND);
    }

    static void p09_a_place_below_0_is_beyond() {
        BackCourt x = withText(3);
        Check.finds(x, "put(2, -1, 1)", () -> x.put(2, -1, 1), Check.BEYOND);
        Check.finds(x, "put(2, least, 1)", () -> x.put(2, Check.LEAST, 1), Check.BEYOND);
    }

    static void p09_a_missing_text_is_nothing_ahead_of_beyond() {
        BackCourt x = withText(3);
        Check.finds(x, "put(1, 0, 1)", () -> x.put(1, 0, 1), Check.NOTHING);
        Check.finds(x, "put(1, -1, 1)", () -> x.put(1, -1, 1), Check.NOTHING);
    }

    static void p09_no_text_4_or_below_0() {
        BackCourt x = withText(3);
        Check.bad(x, "put(4, 0, 1)", () -> x.put(4, 0, 1));
        Check.bad(x, "put(-1, 0, 1)", () -> x.put(-1, 0, 1));
        Check.bad(x, "put(greatest, -1, 1)", () -> x.put(Check.GREATEST, -1, 1));
        Check.bad(x, "put(least, 0, 1)", () -> x.put(Check.LEAST, 0, 1));
    }

    static void p09_tells_nothing() {
        BackCourt x = withText(3);
        x.put(2, 0, 65);
        Check.due("asked()", x.asked(), 6);
    }
}
