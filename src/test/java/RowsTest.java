/** Promises 1 to 9: a new object, rows, texts. */
public final class RowsTest {
    public static void main(String[] args) {
        newObject();
        rows();
        laying();
        tearing();
        copying();
        means();
        texts();
        Check.end();
    }

    private static void newObject() {
        BackCourt x = new BackCourt();
        for (int what = 0; what <= 7; what++) {
            Check.due("1 count(" + what + ")", x.count(what), 0);
        }
        Check.due("1 asked()", x.asked(), 0);
        Check.due("1 upper()", x.upper(), 0);
        Check.due("1 lower()", x.lower(), 1);
        Check.due("1 finding()", x.finding(), 0);
        for (int f = 1; f <= 5; f++) {
            Check.due("1 findings(" + f + ")", x.findings(f), 0);
        }
        for (int r = 0; r < 6; r++) {
            Check.found(x, "1 at(" + r + ", 0)", x.at(r, 0), Check.NOTHING, r + 1);
        }
        for (int t = 0; t < 4; t++) {
            Check.found(x, "1 fault(" + t + ")", x.fault(t), Check.NOTHING, t + 7);
        }
        for (int k = 0; k < 3; k++) {
            Check.found(x, "1 on(" + k + ")", x.on(k), Check.NOTHING, k + 11);
        }
    }

    private static void rows() {
        BackCourt x = new BackCourt();
        Check.due("2 row(0, 3)", x.row(0, 3), 3);
        Check.dueRow("2", x, 0, "0 0 0");
        Check.due("2 lay", x.lay(0, 2, 9), 1);
        Check.due("2 row anew", x.row(0, 4), 4);
        Check.dueRow("2 anew", x, 0, "0 0 0 0");
        Check.due("2 row(5, 40)", x.row(5, 40), 40);
        Check.due("2 last place", x.at(5, 39), 1);
        Check.due("2 row(5, 0)", x.row(5, 0), 0);
        Check.due("2 count(5)", x.count(5), 2);
        Check.due("2 row(6, 1)", x.row(6, 1), Check.BAD);
        Check.due("2 row(-1, 1)", x.row(-1, 1), Check.BAD);
        Check.due("2 row(0, 41)", x.row(0, 41), Check.BAD);
        Check.due("2 row(6, -1)", x.row(6, -1), Check.BAD);
        Check.due("2 findings(5)", x.findings(5), 0);
        Check.found(x, "2 row(0, -1)", x.row(0, -1), Check.SIZE, 1);
        Check.found(x, "2 row(0, least)", x.row(0, Integer.MIN_VALUE), Check.SIZE, 2);
        Check.dueRow("2 refused", x, 0, "0 0 0 0");
    }

    private static void laying() {
        BackCourt x = new BackCourt();
        x.row(1, 2);
        Check.due("3 lay", x.lay(1, 1, -7), 1);
        Check.due("3 was", x.asked(), 0);
        Check.due("3 lay", x.lay(1, 1, Integer.MIN_VALUE), 1);
        Check.due("3 was", x.asked(), -7);
        Check.due("4 at", x.at(1, 1), 1);
        Check.due("4 is", x.asked(), Integer.MIN_VALUE);
        Check.due("3 lay(-1)", x.lay(-1, 0, 1), Check.BAD);
        Check.due("3 lay(6)", x.lay(6, 0, 1), Check.BAD);
        Check.due("4 at(-1)", x.at(-1, 0), Check.BAD);
        Check.due("4 at(6)", x.at(6, 0), Check.BAD);
        Check.found(x, "3 missing", x.lay(2, 0, 1), Check.NOTHING, 1);
        Check.found(x, "4 missing", x.at(2, -1), Check.NOTHING, 2);
        Check.found(x, "3 beyond", x.lay(1, 2, 1), Check.BEYOND, 1);
        Check.found(x, "3 ahead", x.lay(1, -1, 1), Check.BEYOND, 2);
        Check.found(x, "4 beyond", x.at(1, 2), Check.BEYOND, 3);
        Check.found(x, "4 ahead", x.at(1, -1), Check.BEYOND, 4);
        Check.due("3 asked() as it was", x.asked(), Integer.MIN_VALUE);
    }

    private static void tearing() {
        BackCourt x = new BackCourt();
        x.row(3, 2);
        Check.due("5 tear", x.tear(3), 1);
        Check.found(x, "5 torn", x.tear(3), Check.NOTHING, 1);
        Check.found(x, "5 torn at", x.at(3, 0), Check.NOTHING, 2);
        Check.due("5 count(5)", x.count(5), 0);
        Check.due("5 tear(6)", x.tear(6), Check.BAD);
        Check.due("5 tear(-1)", x.tear(-1), Check.BAD);
        Check.due("5 row", x.row(3, 1), 1);
        Check.dueRow("5", x, 3, "0");
    }

    private static void copying() {
        BackCourt x = new BackCourt();
        x.row(0, 5);
        x.row(1, 3);
        for (int i = 0; i < 5; i++) {
            x.lay(0, i, i + 1);
        }
        Check.due("6 copy", x.copy(0, 2, 1, 1, 2), 1);
        Check.dueRow("6", x, 1, "0 3 4");
        Check.due("6 forward", x.copy(0, 0, 0, 1, 4), 1);
        Check.dueRow("6 as if taken ahead", x, 0, "1 1 2 3 4");
        Check.due("6 backward", x.copy(0, 1, 0, 0, 4), 1);
        Check.dueRow("6 as if taken ahead", x, 0, "1 2 3 4 4");
        Check.due("6 none, at the end", x.copy(0, 5, 1, 3, 0), 1);
        Check.due("6 bad", x.copy(6, 0, 1, 0, -1), Check.BAD);
        Check.due("6 bad", x.copy(0, 0, -1, 0, 1), Check.BAD);
        Check.found(x, "6 size ahead of nothing", x.copy(0, 9, 2, 9, -1), Check.SIZE, 1);
        Check.found(x, "6 nothing to", x.copy(0, 9, 2, 0, 1), Check.NOTHING, 1);
        Check.found(x, "6 nothing from", x.copy(2, 0, 0, 9, 1), Check.NOTHING, 2);
        // Reading rows up to their ends was BEYOND, too.
        int read = x.findings(Check.BEYOND);
        Check.found(x, "6 beyond from", x.copy(0, 4, 1, 0, 2), Check.BEYOND, read + 1);
        Check.found(x, "6 beyond to", x.copy(0, 0, 1, 2, 2), Check.BEYOND, read + 2);
        Check.found(x, "6 ahead", x.copy(0, -1, 1, 0, 1), Check.BEYOND, read + 3);
        Check.found(x, "6 ahead", x.copy(0, 0, 1, -1, 1), Check.BEYOND, read + 4);
        Check.found(x, "6 none, past the end", x.copy(0, 6, 1, 0, 0), Check.BEYOND, read + 5);
        Check.found(x, "6 greatest", x.copy(0, 1, 1, 0, Integer.MAX_VALUE), Check.BEYOND, read + 6);
        Check.found(x, "6 greatest", x.copy(0, Integer.MAX_VALUE, 1, 0, 1), Check.BEYOND, read + 7);
        Check.dueRow("6 refused", x, 1, "0 3 4");
    }

    private static void means() {
        BackCourt x = new BackCourt();
        x.row(0, 2);
        x.lay(0, 0, -3);
        Check.due("7 mean", x.mean(0), 1);
        Check.due("7 cut, not floored", x.asked(), -1);
        x.lay(0, 0, Integer.MAX_VALUE);
        x.lay(0, 1, Integer.MAX_VALUE - 1);
        Check.due("7 mean", x.mean(0), 1);
        Check.due("7 past an int", x.asked(), Integer.MAX_VALUE - 1);
        x.row(1, 0);
        Check.found(x, "7 among none", x.mean(1), Check.NOUGHT, 1);
        Check.found(x, "7 missing", x.mean(2), Check.NOTHING, 1);
        Check.due("7 mean(6)", x.mean(6), Check.BAD);
        Check.due("7 mean(-1)", x.mean(-1), Check.BAD);
        Check.due("7 asked() as it was", x.asked(), Integer.MAX_VALUE - 1);
    }

    private static void texts() {
        BackCourt x = new BackCourt();
        Check.due("8 text(3, 80)", x.text(3, 80), 80);
        Check.due("8 text(0, 0)", x.text(0, 0), 0);
        Check.due("8 count(6)", x.count(6), 2);
        Check.due("8 text(4, 1)", x.text(4, 1), Check.BAD);
        Check.due("8 text(-1, 1)", x.text(-1, 1), Check.BAD);
        Check.due("8 text(0, 81)", x.text(0, 81), Check.BAD);
        Check.found(x, "8 text(0, -1)", x.text(0, -1), Check.SIZE, 1);
        Check.due("9 a blank", x.put(3, 79, 300), 1032);
        Check.due("9 cut", x.put(3, 79, 200), 1044);
        Check.due("9 cut below 0", x.put(3, 79, -129), 944);
        Check.due("9 cut", x.put(3, 79, 255), 1127);
        Check.due("9 cut", x.put(3, 79, 0), 999);
        Check.due("9 put(4)", x.put(4, 0, 1), Check.BAD);
        Check.due("9 put(-1)", x.put(-1, 0, 1), Check.BAD);
        Check.found(x, "9 missing", x.put(1, 0, 1), Check.NOTHING, 1);
        Check.found(x, "9 beyond", x.put(0, 0, 1), Check.BEYOND, 1);
        Check.found(x, "9 beyond", x.put(3, 80, 1), Check.BEYOND, 2);
        Check.found(x, "9 ahead", x.put(3, -1, 1), Check.BEYOND, 3);
        Check.due("8 anew", x.text(3, 2), 2);
        Check.due("8 blanks", x.put(3, 1, 1), 1032);
        Check.due("9 asked() not told", x.asked(), 0);
    }
}
