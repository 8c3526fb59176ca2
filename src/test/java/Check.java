/** What the tests share: counting answers that are not due, and courts made from texts. */
final class Check {
    static final int BAD = -1, FULL = -2, FINDING = -3, STATE = -4, NONE = -9;
    static final int NOTHING = 1, BEYOND = 2, UNLIKE = 3, NOUGHT = 4, SIZE = 5;
    private static int wrong = 0;
    private static int asked = 0;

    private Check() {
    }

    static void due(String call, long got, long want) {
        asked++;
        if (got != want) {
            wrong++;
            System.out.println(call + " answered " + got + ", due is " + want);
        }
    }

    static void holds(String what, boolean is) {
        due(what, is ? 1 : 0, 1);
    }

    /** A refusal by a FINDING, which is then the latest, and counted once more. */
    static void found(BackCourt x, String call, int got, int finding, int times) {
        due(call, got, FINDING);
        due(call + " finding()", x.finding(), finding);
        due(call + " findings()", x.findings(finding), times);
    }

    static void write(BackCourt x, int t, String signs) {
        x.text(t, signs.length());
        for (int i = 0; i < signs.length(); i++) {
            x.put(t, i, signs.charAt(i));
        }
    }

    static BackCourt court(String signs) {
        BackCourt x = new BackCourt();
        write(x, 0, signs);
        if (x.court(0) < 0) {
            due("court of " + signs, x.fault(0), NONE);
        }
        return x;
    }

    /** What a ROW holds, as figures, or "missing". */
    static String row(BackCourt x, int r) {
        StringBuilder all = new StringBuilder();
        for (int i = 0; i < 40 && x.at(r, i) == 1; i++) {
            all.append(i == 0 ? "" : " ").append(x.asked());
        }
        return all.length() == 0 && x.finding() == NOTHING ? "missing" : all.toString();
    }

    static void dueRow(String call, BackCourt x, int r, String want) {
        String got = row(x, r);
        due(call + " row " + r + " is '" + got + "', due is '" + want + "'", got.equals(want) ? 1 : 0, 1);
    }

    static void end() {
        System.out.println(asked + " answers, " + wrong + " not as due");
        if (wrong != 0 || asked == 0) {
            System.exit(1);
        }
    }
}
