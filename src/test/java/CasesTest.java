/** Promises 34 to 38: cases. */
public final class CasesTest {
    public static void main(String[] args) {
        like();
        verdict();
        surely();
        freed();
        code();
        Check.end();
    }

    private static void like(BackCourt x, int i, int marks, int want) {
        Check.due("34 like(" + i + ", " + marks + ")", x.like(i, marks), 1);
        Check.due("34 asked() of like(" + i + ", " + marks + ")", x.asked(), want);
    }

    private static void like() {
        BackCourt x = Check.court("r00.01234 r00. r00.03");
        like(x, 0, 31, 10);
        like(x, 0, 0, -5);
        like(x, 1, 0, 0);
        like(x, 1, 31, -5);
        like(x, 2, 9, 4);
        like(x, 2, 3, 0);
        like(x, 2, 22, -5);
        Check.due("34 no ruling", x.like(3, 0), Check.BAD);
        Check.due("34 no ruling", x.like(-1, 0), Check.BAD);
        Check.due("34 no case", x.like(0, 32), Check.BAD);
        Check.due("34 no case", x.like(0, -1), Check.BAD);
        Check.due("34 as it was", x.asked(), -5);
    }

    private static void verdict() {
        BackCourt x = Check.court("r51.0 r30.0 r51.1 r50.1 r00.01");
        Check.due("35 the likest", x.verdict(3, 31), 0);
        Check.due("35 of alike ones the latest day", x.verdict(1, 3), 1);
        Check.due("35 of one day the last", x.verdict(2, 12), 0);
        Check.due("35 of those that stand", x.verdict(2, 4), 1);
        Check.due("35 below 0 is like, too", x.verdict(16, 4), 1);
        Check.due("35 without any", x.verdict(1, 0), 0);
        Check.due("35 no case", x.verdict(32, 0), Check.BAD);
        Check.due("35 no case", x.verdict(-1, 0), Check.BAD);
        Check.due("35 no set", x.verdict(0, 32), Check.BAD);
        Check.due("35 no set", x.verdict(0, -1), Check.BAD);
        Check.due("35 of none", new BackCourt().verdict(31, 0), 0);
        BackCourt day = Check.court("r91.0 r00.0");
        Check.due("35 an earlier one of a later day", day.verdict(0, 3), 1);
        Check.due("35 not told", day.asked(), 0);
    }

    private static final String NO_WAY = "r00. b10-0.";

    private static void surely() {
        BackCourt x = Check.court("c01.0 c01.0 k50.1");
        Check.due("36 in one way of two", x.surely(1), Check.NONE);
        Check.due("36 told by none, too", x.asked(), 1);
        Check.due("36 the same", x.surely(2), 0);
        Check.due("36 in none", x.asked(), 0);
        x.reverse(2, 1);
        Check.due("36 the same", x.surely(1), 1);
        Check.due("36 in both", x.asked(), 2);
        Check.due("36 no case", x.surely(32), Check.BAD);
        Check.due("36 no case", x.surely(-1), Check.BAD);
        BackCourt jam = Check.court(NO_WAY);
        Check.found(jam, "36 no way", jam.surely(0), Check.NOUGHT, 1);
        Check.due("36 bad ahead of nought", jam.surely(32), Check.BAD);
        Check.due("36 not told", jam.asked(), 0);
    }

    private static void freed() {
        BackCourt x = Check.court("k01.0 k00.");
        // With mark 0 the first is the likest; without it both are alike, and the last one holds.
        Check.due("37 all with mark 0", x.freed(0), 16);
        Check.due("37 a mark of none", x.freed(2), 0);
        Check.due("37 no mark", x.freed(5), Check.BAD);
        Check.due("37 no mark", x.freed(-1), Check.BAD);
        x.marks(1, 2);
        // The first is without marks then, and so the likest still of those without mark 1.
        Check.due("37 a mark of one alone", x.freed(0), 0);
        BackCourt jam = Check.court(NO_WAY);
        Check.found(jam, "37 no way", jam.freed(0), Check.NOUGHT, 1);
        Check.due("37 bad ahead of nought", jam.freed(5), Check.BAD);
        BackCourt first = Check.court("c01.0 c01.0 k90.1");
        Check.due("37 by the first way nobody is held", first.freed(0), 0);
        Check.due("37 of none", new BackCourt().freed(4), 0);
    }

    private static void code() {
        BackCourt x = Check.court("k01.0 k01.0 k00.1 k00.1 k00.01 u01.4");
        Check.due("38 two", x.code(), 2);
        Check.due("38 the least", x.asked(), 1 + 4);
        BackCourt all = Check.court("k01.0 k01.0 k01.34");
        Check.due("38 one will do", all.code(), 1);
        Check.due("38 the least", all.asked(), 1);
        BackCourt zero = Check.court("k00.0 k00.1");
        Check.due("38 none gives 0", zero.code(), 0);
        Check.due("38 none", zero.asked(), 0);
        BackCourt none = new BackCourt();
        Check.due("38 of none", none.code(), 0);
        BackCourt first = Check.court("c01.0 c01.0 k90.1");
        Check.due("38 by the first way", first.code(), 0);
        BackCourt jam = Check.court(NO_WAY);
        jam.like(0, 1);
        Check.found(jam, "38 no way", jam.code(), Check.NOUGHT, 1);
        Check.due("38 as it was", jam.asked(), -1);
    }
}
