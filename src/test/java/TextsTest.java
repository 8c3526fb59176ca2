/** Promises 10 to 19: faults, courts by texts, rulings, filed, struck, kept. */
public final class TextsTest {
    public static void main(String[] args) {
        faults();
        courts();
        rulings();
        marksOfKinds();
        changed();
        filed();
        struck();
        kept();
        Check.end();
    }

    private static void fault(String signs, int want) {
        BackCourt x = new BackCourt();
        Check.write(x, 2, signs);
        Check.due("10 fault of '" + signs + "'", x.fault(2), want);
        Check.due("11 court of '" + signs + "'", x.court(2) == Check.STATE ? 1 : 0, want == Check.NONE ? 0 : 1);
    }

    private static void faults() {
        fault("", Check.NONE);
        fault("   ", Check.NONE);
        fault("r00.", Check.NONE);
        fault("  r00.01234   b91+0.  ", Check.NONE);
        fault("r00.b11-0.4f21+1.c30.u40.k50.", Check.NONE);
        fault("r90. r80. u00.3", Check.NONE);
        fault("x00.", 0);
        fault("R00.", 0);
        fault("  .", 2);
        fault("r", 1);
        fault("r0", 2);
        fault("r00", 3);
        fault("r00. r10-", 9);
        fault("r00. r10-0", 10);
        fault("rx0.", 1);
        fault("r 00.", 1);
        fault("r02.", 2);
        fault("r0 0.", 2);
        fault("r00 .", 3);
        fault("r00*", 3);
        fault("r10-0.", 4);
        fault("r00. r00-0.", 9);
        fault("r10. r00-0.", 9);
        fault("r00. r10-1.", 9);
        fault("r00. r10-x.", 9);
        fault("r00. r10- 0.", 9);
        fault("r00. r10-00.", 10);
        fault("r00.5", 4);
        fault("r00.00", 5);
        fault("r00.10", 5);
        fault("r00.0 1", 6);
        fault("r00.01234r00.4k", 15);
        fault("r00.r00.r00.r00.r00.r00.r00.r00.r00.", Check.NONE);
        fault("r00.r00.r00.r00.r00.r00.r00.r00.r00. r", 37);
        fault("r00.r00.r00.r00.r00.r00.r00.r00.r00.0x", 37);
        BackCourt x = new BackCourt();
        Check.due("10 fault(4)", x.fault(4), Check.BAD);
        Check.due("10 fault(-1)", x.fault(-1), Check.BAD);
        Check.found(x, "10 missing", x.fault(0), Check.NOTHING, 1);
        Check.write(x, 0, "r00.");
        x.put(0, 0, -142);
        Check.due("10 a byte is a byte", x.fault(0), Check.NONE);
        x.put(0, 0, -14);
        Check.due("10 below 0", x.fault(0), 0);
    }

    private static void courts() {
        BackCourt x = Check.court("r00. r10-0. f21+1.04");
        Check.due("11 rulings", x.count(0), 3);
        Check.due("11 keep", x.keep(1), 3);
        Check.write(x, 3, "b11.2 b10.");
        Check.due("11 court anew", x.court(3), 2);
        Check.due("11 kept courts go", x.count(7), 0);
        Check.found(x, "11 on", x.on(1), Check.NOTHING, 1);
        x.keep(2);
        Check.write(x, 1, "b11.2 b1");
        Check.due("11 a fault", x.court(1), Check.STATE);
        Check.due("11 as it was", x.count(0), 2);
        Check.due("11 kept as they were", x.count(7), 1);
        Check.due("11 court(4)", x.court(4), Check.BAD);
        Check.due("11 court(-1)", x.court(-1), Check.BAD);
        Check.found(x, "11 missing", x.court(2), Check.NOTHING, 2);
        x.text(2, 7);
        Check.due("11 blanks", x.court(2), 0);
        Check.due("11 none", x.count(0), 0);
    }

    private static void ruling(BackCourt x, int i, int... want) {
        for (int what = 0; what < want.length; what++) {
            Check.due("12 ruling(" + i + ", " + what + ")", x.ruling(i, what), 1);
            Check.due("12 asked() of ruling(" + i + ", " + what + ")", x.asked(), want[what]);
        }
    }

    private static void rulings() {
        BackCourt x = Check.court("r01. b10-0.04 f20+0.1 u31-0.01234 c90+3. k00.");
        ruling(x, 0, 0, 0, 1, Check.NONE, 0, 0, 3);
        ruling(x, 1, 1, 1, 0, 0, -1, 17, 0);
        ruling(x, 2, 2, 2, 0, 0, 1, 2, 0);
        ruling(x, 3, 3, 3, 1, 0, -1, 31, 1);
        ruling(x, 4, 4, 9, 0, 3, 1, 0, 0);
        ruling(x, 5, 5, 0, 0, Check.NONE, 0, 0, 0);
        Check.due("12 no ruling", x.ruling(6, 0), Check.BAD);
        Check.due("12 no ruling", x.ruling(-1, 0), Check.BAD);
        Check.due("12 no what", x.ruling(0, 7), Check.BAD);
        Check.due("12 no what", x.ruling(0, -1), Check.BAD);
        Check.due("12 asked() as it was", x.asked(), 0);
    }

    private static void marksOfKinds() {
        BackCourt x = Check.court("r00. f11-0. b21+1. u30-2. c31-2. k40+3. c30.");
        Check.due("13 bound", x.mark(2, 1), 2);
        Check.due("13 chained as bound", x.mark(4, 1), 3);
        Check.due("13 chained", x.mark(4, 4), 2);
        Check.due("13 chained, citing none", x.mark(6, 1), 0);
        Check.due("13 firm", x.mark(1, 2), 0);
        Check.due("13 rumour", x.mark(3, 3), 1);
        Check.due("13 rock as firm", x.mark(5, 2), 0);
        Check.due("13 rock", x.mark(5, 5), x.ways());
        Check.due("13 there are ways", x.ways() > 0 ? 1 : 0, 1);
        Check.due("13 kind 0", x.mark(0, 0), Check.BAD);
        Check.due("13 kind 6", x.mark(0, 6), Check.BAD);
        Check.due("13 kind -1", x.mark(0, -1), Check.BAD);
        Check.due("13 no ruling", x.mark(7, 1), Check.BAD);
        Check.due("13 no ruling", x.mark(-1, 1), Check.BAD);
        int[][] unlike = {{0, 1}, {0, 2}, {1, 1}, {1, 5}, {2, 4}, {2, 2}, {3, 1}, {4, 2}, {4, 3}, {5, 1}, {5, 4}};
        for (int k = 0; k < unlike.length; k++) {
            Check.found(x, "13 unlike " + k, x.mark(unlike[k][0], unlike[k][1]), Check.UNLIKE, k + 1);
        }
        BackCourt y = Check.court("f00. k10-0. k10-0. k10+0. f20-1.");
        Check.due("13 against alone", y.mark(0, 2), 2);
        Check.due("13 rock as firm", y.mark(1, 2), 1);
        BackCourt z = Check.court("c00. c00. k00.");
        Check.due("13 rock in its ways", z.mark(2, 5), 1);
        BackCourt jam = Check.court("b00. r10-0. b20+1. c30-1. c30-2. k90.");
        Check.due("13 rock in ways", jam.mark(5, 5), jam.ways());
    }

    private static void changed() {
        BackCourt x = Check.court("r01. b10-0.04");
        Check.due("14 reverse", x.reverse(0, 0), 1);
        Check.due("14 reversed", x.reverse(0, 0), 0);
        Check.due("14 reverse", x.reverse(1, 1), 0);
        ruling(x, 1, 1, 1, 1);
        Check.due("14 no ruling", x.reverse(2, 0), Check.BAD);
        Check.due("14 no ruling", x.reverse(-1, 0), Check.BAD);
        Check.due("14 no verdict", x.reverse(0, 2), Check.BAD);
        Check.due("14 no verdict", x.reverse(0, -1), Check.BAD);
        Check.due("15 marks", x.marks(1, 31), 17);
        Check.due("15 marks", x.marks(1, 0), 31);
        Check.due("15 no marks", x.marks(1, 32), Check.BAD);
        Check.due("15 no marks", x.marks(1, -1), Check.BAD);
        Check.due("15 no ruling", x.marks(2, 0), Check.BAD);
        Check.due("15 no ruling", x.marks(-1, 0), Check.BAD);
        Check.due("15 as it was", x.marks(1, 1), 0);
    }

    private static void filed() {
        BackCourt x = new BackCourt();
        Check.due("16 first", x.file(2, 3, 1, Check.NONE, 0), 0);
        Check.due("16 against", x.file(5, 9, 0, 0, -1), 1);
        Check.due("16 for", x.file(4, 4, 1, 0, 1), 2);
        ruling(x, 0, 2, 3, 1, Check.NONE, 0, 0, 2);
        ruling(x, 1, 5, 9, 0, 0, -1, 0, 0);
        ruling(x, 2, 4, 4, 1, 0, 1, 0, 0);
        int[][] bad = {{6, 3, 1, -9, 0}, {-1, 3, 1, -9, 0}, {0, 10, 1, -9, 0}, {0, -1, 1, -9, 0}, {0, 3, 2, -9, 0},
            {0, 3, -1, -9, 0}, {0, 3, 1, -9, 1}, {0, 3, 1, -9, -1}, {0, 4, 1, 0, 0}, {0, 4, 1, 0, 2}, {0, 4, 1, 0, -2},
            {0, 3, 1, 0, 1}, {0, 9, 1, 1, 1}, {0, 9, 1, 3, 1}, {0, 9, 1, -1, 1}, {0, 9, 1, -1, 0}};
        for (int[] b : bad) {
            Check.due("16 bad " + java.util.Arrays.toString(b), x.file(b[0], b[1], b[2], b[3], b[4]), Check.BAD);
        }
        for (int i = 3; i < 9; i++) {
            Check.due("16 more", x.file(0, 0, 0, Check.NONE, 0), i);
        }
        Check.due("16 full", x.file(0, 0, 0, Check.NONE, 0), Check.FULL);
        Check.due("16 bad ahead of full", x.file(6, 0, 0, Check.NONE, 0), Check.BAD);
        Check.due("16 nine", x.count(0), 9);
    }

    private static void struck() {
        BackCourt x = Check.court("r00. f11-0. b21+1.");
        Check.due("17 none", x.strike(3), 0);
        Check.due("17 past", x.strike(4), Check.BAD);
        Check.due("17 ahead", x.strike(-1), Check.BAD);
        Check.due("17 two", x.strike(1), 2);
        Check.due("17 one left", x.count(0), 1);
        Check.due("17 none cites", x.ruling(0, 6), 1);
        Check.due("17 none cites", x.asked(), 0);
        Check.due("17 all", x.strike(0), 1);
        Check.due("17 of none", x.strike(0), 0);
        Check.due("17 past none", x.strike(1), Check.BAD);
    }

    private static void kept() {
        BackCourt x = Check.court("r00.1 f11-0. b21+1.");
        Check.due("18 keep", x.keep(0), 3);
        x.reverse(0, 1);
        x.marks(0, 5);
        x.strike(2);
        Check.due("18 keep", x.keep(2), 2);
        x.strike(0);
        Check.due("18 no rulings", x.keep(0), Check.STATE);
        Check.due("18 keep(3)", x.keep(3), Check.BAD);
        Check.due("18 keep(-1)", x.keep(-1), Check.BAD);
        Check.due("18 two kept", x.count(7), 2);
        Check.due("19 on", x.on(0), 3);
        ruling(x, 0, 0, 0, 0, Check.NONE, 0, 2, 1);
        ruling(x, 2, 1, 2, 1, 1, 1, 0, 0);
        Check.due("19 on", x.on(2), 2);
        ruling(x, 0, 0, 0, 1, Check.NONE, 0, 5, 1);
        x.strike(1);
        Check.due("19 kept as it was", x.on(2), 2);
        Check.found(x, "19 missing", x.on(1), Check.NOTHING, 1);
        Check.due("19 on(3)", x.on(3), Check.BAD);
        Check.due("19 on(-1)", x.on(-1), Check.BAD);
        Check.due("18 over another", x.keep(0), 2);
        Check.due("18 two kept", x.count(7), 2);
    }
}
