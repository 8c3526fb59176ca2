/** Promises 29 to 33: what to file, what matters. */
public final class FilingTest {
    public static void main(String[] args) {
        fell();
        guard();
        settle();
        matter();
        judge();
        Check.end();
    }

    private static void fell() {
        BackCourt x = Check.court("r00. f10. k20. u30. b41+0.");
        Check.due("29 one", x.fell(0, 3), 1);
        Check.dueRow("29 one", x, 3, "0");
        Check.due("29 a firm one, twice", x.fell(1, 3), 2);
        Check.dueRow("29 twice", x, 3, "1 1");
        Check.due("29 what it is bound to", x.fell(4, 5), 1);
        Check.dueRow("29 the first row", x, 5, "0");
        Check.due("29 falls as it is", x.fell(3, 3), 0);
        Check.found(x, "29 anew, without places", x.at(3, 0), Check.BEYOND, x.findings(Check.BEYOND));
        x.row(3, 2);
        Check.due("29 a rock", x.fell(2, 3), Check.NONE);
        Check.dueRow("29 none: as it was", x, 3, "0 0");
        Check.due("29 no row is made", x.fell(2, 0), Check.NONE);
        Check.due("29 rows", x.count(5), 2);
        Check.due("29 nothing is filed", x.count(0), 5);
        Check.due("29 bad", x.fell(5, 0), Check.BAD);
        Check.due("29 bad", x.fell(-1, 0), Check.BAD);
        Check.due("29 bad", x.fell(0, 6), Check.BAD);
        Check.due("29 bad", x.fell(0, -1), Check.BAD);
        BackCourt full = Check.court("f90.f90.f90.f90.f90.f90.f90.f90.f90.");
        Check.due("29 in a full court, behind day 9", full.fell(8, 0), 2);
        Check.dueRow("29 full", full, 0, "8 8");
        BackCourt jam = Check.court("r00. b10-0. r00.");
        Check.due("29 a way is wanted, too", jam.fell(1, 0), 1);
        Check.dueRow("29 a way", jam, 0, "0");
        Check.due("29 both", jam.fell(2, 0), 2);
        Check.dueRow("29 both", jam, 0, "0 2");
        BackCourt three = Check.court("u00. k10+0. f20. f31-0.");
        Check.due("29 falls", three.fell(0, 0), 0);
    }

    private static void guard() {
        BackCourt x = Check.court("r00. f10-0. k20. u30. r40-0. k50-2.");
        Check.due("30 stands", x.guard(2, 1), 0);
        Check.due("30 three", x.guard(0, 1), 3);
        Check.dueRow("30 rising", x, 1, "1 1 4");
        x.row(1, 1);
        Check.due("30 a rumour", x.guard(3, 1), Check.NONE);
        Check.dueRow("30 as it was", x, 1, "0");
        Check.due("30 stands", x.guard(4, 1), 0);
        Check.due("30 rows", x.count(5), 1);
        Check.due("30 bad", x.guard(6, 0), Check.BAD);
        Check.due("30 bad", x.guard(-1, 0), Check.BAD);
        Check.due("30 bad", x.guard(0, 6), Check.BAD);
        Check.due("30 bad", x.guard(0, -1), Check.BAD);
        BackCourt four = Check.court("r00. f10-0. f20-0.");
        Check.due("30 four would do", four.guard(0, 0), Check.NONE);
        BackCourt rock = Check.court("r00. k10-0.");
        Check.due("30 against a rock", rock.guard(0, 0), Check.NONE);
        BackCourt first = Check.court("r00. b11. b20+1. b31+2. r41-0. b51+3.");
        Check.due("30 one", first.guard(0, 0), 1);
        Check.dueRow("30 one", first, 0, "4");
        BackCourt chain = Check.court("r00. b11. b20+1. b31-0.");
        Check.due("30 no way at first", chain.guard(0, 0), 1);
        Check.dueRow("30 the first row", chain, 0, "3");
    }

    private static void settle() {
        BackCourt x = Check.court("c00. c00. c10. c10. c20. c20. k30.");
        Check.due("31 three", x.settle(2), 3);
        Check.dueRow("31 the first row", x, 2, "0 2 4");
        x.file(4, 3, 0, Check.NONE, 0);
        Check.due("31 the rock of its day", x.settle(2), 3);
        x.strike(7);
        x.file(4, 4, 0, Check.NONE, 0);
        x.file(4, 4, 0, Check.NONE, 0);
        Check.due("31 four would do", x.settle(2), Check.NONE);
        Check.dueRow("31 as it was", x, 2, "0 2 4");
        Check.due("31 bad", x.settle(6), Check.BAD);
        Check.due("31 bad", x.settle(-1), Check.BAD);
        BackCourt none = new BackCourt();
        Check.due("31 of none", none.settle(0), 0);
        Check.due("31 a row", none.count(5), 1);
        BackCourt jam = Check.court("r00. r00. b10-1.");
        Check.due("31 no way", jam.settle(0), 1);
        Check.dueRow("31 a way", jam, 0, "1");
    }

    private static void matter() {
        BackCourt x = Check.court("r00. r10-0. r20-1. u20. b30+2. k40+3.");
        Check.due("32 those behind", x.matter(2), 3);
        Check.due("32 the bound one falls with it", x.sure(), 1 + 4 + 8 + 16 + 32);
        Check.due("32 falls as it is", x.matter(1), 0);
        Check.due("32 the rumour falls", x.matter(5), 1);
        Check.due("32 not itself", x.matter(0), 0);
        Check.due("32 no ruling", x.matter(6), Check.BAD);
        Check.due("32 no ruling", x.matter(-1), Check.BAD);
        BackCourt jam = Check.court("r00. b10-0. r50. u60.");
        Check.due("32 from neither to stand, fall", jam.matter(1), 3);
        BackCourt pair = Check.court("c00. c00. b10+0.");
        Check.due("32 from neither to fall", pair.matter(0), 2);
        Check.due("32 neither as it was", pair.matter(2), 0);
        Check.due("32 not told", pair.asked(), 0);
    }

    private static void judge() {
        BackCourt x = Check.court("r00. r10-0. r20-1. u20. b30+2. k40+3.");
        Check.due("33 day 2", x.judge(), 2);
        Check.due("33 how many", x.asked(), 3);
        BackCourt alike = Check.court("r90. r30. r50.");
        Check.due("33 the first day", alike.judge(), 3);
        Check.due("33 none", alike.asked(), 0);
        BackCourt day = Check.court("f00. r10-0. r10-0. k20. k30. b41+4.");
        Check.due("33 both of day 1", day.judge(), 1);
        Check.due("33 one", day.asked(), 1);
        Check.due("32 one alone of day 1 matters, too", day.matter(1), 1);
        BackCourt two = Check.court("f00. r10-0. r20-0. k20-0. b30+1. b30+1.");
        Check.due("33 day 1", two.judge(), 1);
        Check.due("33 two", two.asked(), 2);
        BackCourt none = new BackCourt();
        none.row(0, 1);
        none.lay(0, 0, 4);
        none.at(0, 0);
        Check.due("33 no rulings", none.judge(), Check.STATE);
        Check.due("33 as it was", none.asked(), 4);
    }
}
