import java.util.function.IntSupplier;

/** What the tests share: counting answers that are not due, and courts made from texts. */
final class Check {
    static final int BAD = -1, FULL = -2, FINDING = -3, STATE = -4, NONE = -9;
    static final int NOTHING = 1, BEYOND = 2, UNLIKE = 3, NOUGHT = 4, SIZE = 5;
    static final int LEAST = Integer.MIN_VALUE, GREATEST = Integer.MAX_VALUE;
    private static int wrong = 0;
    private static int asked = 0;
    private static String test = "";

    private Check() {
    }

    /** What is asked from now on is told under a test's name. */
    static void under(String name) {
        test = name + ": ";
    }

    static int answers() {
        return asked;
    }

    static void due(String call, long got, long want) {
        asked++;
        if (got != want) {
            wrong++;
            System.out.println(test + call + " answered " + got + ", due is " + want);
        }
    }

    static void holds(String what, boolean is) {
        due(what, is ? 1 : 0, 1);
    }

    /** A refusal by a FINDING, which is then the latest, and counted once more. */
    static void found(BackCourt x, String call, int got, int finding, int times) {
        due(call, got, FINDING);
        due(call + " finding()", x.finding(), finding);
        due(call + " findings()", x.findings(finding), times);
    }

    /** All of an object that can be seen without changing it; finding() and findings() last. */
    private static long[] seen(BackCourt x) {
        return new long[] {x.digest(), x.asked(), x.upper(), x.lower(), x.finding(),
            x.findings(1), x.findings(2), x.findings(3), x.findings(4), x.findings(5)};
    }

    /** An answer after which all that can be seen is as it was. */
    static void still(BackCourt x, String call, IntSupplier ask, int want) {
        long[] before = seen(x);
        due(call, ask.getAsInt(), want);
        long[] after = seen(x);
        for (int k = 0; k < before.length; k++) {
            due(call + " leaves as it was what is seen " + k, after[k], before[k]);
        }
    }

    static void bad(BackCourt x, String call, IntSupplier ask) {
        still(x, call, ask, BAD);
    }

    /** A refusal by a FINDING, after which nothing but finding() and its findings() is otherwise. */
    static void finds(BackCourt x, String call, IntSupplier ask, int finding) {
        long[] want = seen(x);
        want[4] = finding;
        want[4 + finding]++;
        due(call, ask.getAsInt(), FINDING);
        long[] after = seen(x);
        for (int k = 0; k < want.length; k++) {
            due(call + " changes findings alone, seen " + k, after[k], want[k]);
        }
    }

    /** An answer, and what asked() tells behind it. */
    static void tells(BackCourt x, String call, IntSupplier ask, int want, int told) {
        due(call, ask.getAsInt(), want);
        due(call + " asked()", x.asked(), told);
    }

    static void write(BackCourt x, int t, String signs) {
        x.text(t, signs.length());
        for (int i = 0; i < signs.length(); i++) {
            if (signs.charAt(i) != ' ') {
                x.put(t, i, signs.charAt(i));
            }
        }
    }

    static BackCourt court(String signs) {
        BackCourt x = new BackCourt();
        write(x, 0, signs);
        if (x.court(0) < 0) {
            due("court of " + signs, x.fault(0), NONE);
        }
        return x;
    }

    /** A ROW with these values. */
    static void rowOf(BackCourt x, int r, int... values) {
        x.row(r, values.length);
        for (int i = 0; i < values.length; i++) {
            x.lay(r, i, values[i]);
        }
    }

    /** What a ROW holds, as figures, or "missing". */
    static String row(BackCourt x, int r) {
        StringBuilder all = new StringBuilder();
        for (int i = 0; i < 40 && x.at(r, i) == 1; i++) {
            all.append(i == 0 ? "" : " ").append(x.asked());
        }
        return all.length() == 0 && x.finding() == NOTHING ? "missing" : all.toString();
    }

    static void dueRow(String call, BackCourt x, int r, String want) {
        String got = row(x, r);
        due(call + " row " + r + " is '" + got + "', due is '" + want + "'", got.equals(want) ? 1 : 0, 1);
    }

    /** What ruling() tells of one, from 0 on. */
    static void dueRuling(BackCourt x, int i, int... want) {
        for (int what = 0; what < want.length; what++) {
            due("ruling(" + i + ", " + what + ")", x.ruling(i, what), 1);
            due("asked() of ruling(" + i + ", " + what + ")", x.asked(), want[what]);
        }
    }

    static void end() {
        System.out.println(asked + " answers, " + wrong + " not as due");
        if (wrong != 0 || asked == 0) {
            System.exit(1);
        }
    }
}
