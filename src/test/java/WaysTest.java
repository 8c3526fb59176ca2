/** Promises 20 to 28: dues, ways, what is sure, day by day. */
public final class WaysTest {
    public static void main(String[] args) {
        dues();
        ways();
        surely();
        odds();
        together();
        till();
        flips();
        jam();
        Check.end();
    }

    private static void dues() {
        BackCourt r = Check.court("r00. r10-0. r10+0.");
        Check.due("20 none against", r.due(0), 7);
        Check.due("20 against", r.due(2), 6);
        Check.due("20 for", r.due(4), 7);
        BackCourt b = Check.court("r00. b10-0. b10. r20-1.");
        Check.due("20 bound, cited falls", b.due(0), 1 + 4 + 8);
        Check.due("20 bound, cited stands", b.due(1), 15);
        Check.due("20 bound, against", b.due(9), 1 + 4 + 8);
        BackCourt f = Check.court("f00. k10-0. k10-0. k10+0.");
        Check.due("20 firm, one", f.due(2), 15);
        Check.due("20 firm, one and one for", f.due(12), 15);
        Check.due("20 firm, two", f.due(6), 14);
        BackCourt u = Check.court("u00. r10+0. r10-0. u90.");
        Check.due("20 rumour, none", u.due(0), 6);
        Check.due("20 rumour, for", u.due(2), 7);
        Check.due("20 rumour, for and against", u.due(6), 6);
        Check.due("20 rumour, against", u.due(4), 6);
        BackCourt c = Check.court("r00. c10+0. c11. r20-2. r10.");
        Check.due("20 chained, alone", c.due(1), 25);
        Check.due("20 chained, itself does not do", c.due(3), 1 + 4 + 8 + 16);
        Check.due("20 chained, another", c.due(16 + 1), 1 + 2 + 4 + 8 + 16);
        Check.due("20 chained, against", c.due(16 + 1 + 8), 1 + 2 + 8 + 16);
        Check.due("20 chained, cited falls", c.due(16), 1 + 4 + 8 + 16);
        BackCourt k = Check.court("k00. k10-0. k10-0. k10-0.");
        Check.due("20 rocks", k.due(15), 15);
        Check.due("20 bad", k.due(16), Check.BAD);
        Check.due("20 bad", k.due(-1), Check.BAD);
        Check.due("20 of none", new BackCourt().due(0), 0);
        Check.due("20 of none", new BackCourt().due(1), Check.BAD);
    }

    private static void ways() {
        BackCourt none = new BackCourt();
        Check.due("21 of none", none.ways(), 1);
        Check.due("21 of none", none.asked(), 0);
        BackCourt two = Check.court("c00.0 c01.1 k50.");
        Check.due("21 two", two.ways(), 2);
        Check.due("21 first", two.asked(), 4);
        Check.due("22 first", two.nth(0), 4);
        Check.due("22 next", two.nth(1), 7);
        Check.found(two, "22 no more", two.nth(2), Check.NOUGHT, 1);
        Check.found(two, "22 greatest", two.nth(Integer.MAX_VALUE), Check.NOUGHT, 2);
        Check.due("22 bad", two.nth(-1), Check.BAD);
        Check.due("22 not told", two.asked(), 4);
        BackCourt jam = Check.court(JAM);
        Check.due("21 no way", jam.ways(), 0);
        Check.due("21 no way", jam.asked(), Check.NONE);
        Check.found(jam, "22 no way", jam.nth(0), Check.NOUGHT, 1);
        Check.due("22 one", none.nth(0), 0);
        BackCourt chained = Check.court("c00. c00. c10. c10. c20. c20. c30. c30. k90.");
        Check.due("21 each pair stands or falls", chained.ways(), 16);
        for (int i = 0; i < 16; i++) {
            int pairs = (i & 1) * 3 | (i & 2) * 6 | (i & 4) * 12 | (i & 8) * 24;
            Check.due("22 by the set as a number", chained.nth(i), 256 + pairs);
        }
        BackCourt bound = Check.court("b00. b10+0. r20. b30-2.");
        Check.due("21 no way", bound.ways(), 0);
    }

    /** The bound one needs what it cites against, so it makes what it needs fall: no way. */
    private static final String JAM = "r00. b50-0. r70.";

    private static void surely() {
        BackCourt two = Check.court("c00.0 c01.1 k50. u60.");
        Check.due("23 stands", two.sure(), 4);
        Check.due("23 falls", two.asked(), 8);
        BackCourt jam = Check.court(JAM);
        jam.ruling(0, 3);
        Check.due("23 no way", jam.sure(), 0);
        Check.due("23 no way", jam.asked(), 0);
        Check.due("23 of none", new BackCourt().sure(), 0);
    }

    private static void odds() {
        BackCourt two = Check.court("c00.0 c01.1 k50. u60. c10. c10.");
        Check.due("24 ways", two.ways(), 4);
        int[][] due = {{1, 2}, {1, 2}, {1, 1}, {0, 1}, {1, 2}};
        for (int i = 0; i < due.length; i++) {
            Check.due("24 odds", two.odds(i), 1);
            Check.due("44 upper", two.upper(), due[i][0]);
            Check.due("45 lower", two.lower(), due[i][1]);
        }
        Check.due("24 no ruling", two.odds(6), Check.BAD);
        Check.due("24 no ruling", two.odds(-1), Check.BAD);
        two.court(1);
        Check.due("44 as it was", two.upper(), 1);
        Check.due("45 as it was", two.lower(), 2);
        BackCourt jam = Check.court(JAM);
        Check.found(jam, "24 no way", jam.odds(0), Check.NOUGHT, 1);
        Check.due("24 bad ahead of nought", jam.odds(3), Check.BAD);
        Check.due("44 before", jam.upper(), 0);
        Check.due("45 before", jam.lower(), 1);
        BackCourt three = Check.court("c00. c00. b10+0. c20. c20. b30+3. r40-3.");
        Check.due("24 odds", three.odds(0), 1);
        Check.due("24 lowest terms", three.upper() * 2, three.lower());
    }

    private static void together() {
        BackCourt two = Check.court("c00.0 c01.1 k50. u60. b70+0. r80-4.");
        Check.due("25 with one", two.together(0), two.together(1));
        Check.due("25 chained ones", two.together(0), 3);
        Check.due("25 rocks", two.together(2), 4 + 32);
        Check.due("25 those that fall", two.together(3), 8 + 16);
        Check.due("25 no ruling", two.together(6), Check.BAD);
        Check.due("25 no ruling", two.together(-1), Check.BAD);
        BackCourt jam = Check.court(JAM);
        Check.found(jam, "25 no way", jam.together(0), Check.NOUGHT, 1);
        Check.due("25 no ruling", jam.together(3), Check.BAD);
    }

    private static void till() {
        BackCourt x = Check.court("r90. c20. r00. c21. r10-2.");
        Check.due("26 nothing is told but one", x.till(0), 1);
        Check.due("26 by their numbers", x.asked(), 4);
        Check.due("26 till 1", x.till(1), 1);
        Check.due("26 till 1", x.asked(), 16);
        Check.due("26 till 2", x.till(2), 2);
        Check.due("26 till 2", x.asked(), 16);
        Check.due("26 till 8", x.till(8), 2);
        Check.due("26 till 9", x.till(9), 2);
        Check.due("26 till 9", x.asked(), 17);
        Check.due("26 bad", x.till(10), Check.BAD);
        Check.due("26 bad", x.till(-1), Check.BAD);
        BackCourt jam = Check.court(JAM);
        Check.due("26 till 4", jam.till(4), 1);
        Check.due("26 till 5", jam.till(5), 0);
        Check.due("26 none", jam.asked(), Check.NONE);
        Check.due("26 till 9", jam.till(9), 0);
        Check.due("26 of none", new BackCourt().till(0), 1);
    }

    private static void flips() {
        BackCourt x = Check.court("r00. r10-0. r20-1. r30-2. r90-3.");
        Check.due("27 each day", x.flips(0), 4);
        Check.due("27 from its own day", x.flips(1), 3);
        Check.due("27 from its own day", x.flips(4), 0);
        BackCourt y = Check.court("u00. r10+0. u21-1. c30+2. c30. r50-4.");
        Check.due("27 till 3 it does neither", y.till(3), 2);
        Check.due("27 falls, stands, neither, stands", y.flips(0), 1);
        Check.due("27 stands, neither, stands", y.flips(1), 0);
        BackCourt z = Check.court("r00. u11-0. c20+1. c20. r50-0.");
        Check.due("27 stands, neither, falls", z.flips(0), 1);
        z.strike(4);
        Check.due("27 stands, neither", z.flips(0), 0);
        BackCourt jam = Check.court("r00. b10-0. r20-1. r30-0.");
        Check.due("27 stands, no way, stands, falls", jam.flips(0), 1);
        Check.due("27 no ruling", x.flips(5), Check.BAD);
        Check.due("27 no ruling", x.flips(-1), Check.BAD);
        Check.due("27 not told", x.asked(), 0);
    }

    private static void jam() {
        Check.due("28 day 5", Check.court(JAM).jam(), 5);
        Check.due("28 day 9", Check.court("r00. b90-0.").jam(), 9);
        Check.due("28 settled again", Check.court("r00. b10-0. r20-1.").jam(), 1);
        Check.due("28 none", Check.court("r00. r10-0.").jam(), Check.NONE);
        Check.due("28 of none", new BackCourt().jam(), Check.NONE);
    }
}
