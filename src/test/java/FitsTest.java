/** Promises 39 to 42: what fits, lots. */
public final class FitsTest {
    public static void main(String[] args) {
        kinds();
        forged();
        torn();
        lots();
        Check.end();
    }

    private static void kinds() {
        BackCourt x = Check.court("r00. r10-0. k10-0.");
        Check.due("39 two against: a rock alone", x.kinds(0, 7), 32);
        Check.due("39 all else falls it", x.kinds(0, 6), 31);
        Check.due("39 none: another one is not due", x.kinds(0, 2), 0);
        BackCourt one = Check.court("r00. r10-0.");
        Check.due("39 one against: firm ones", one.kinds(0, 3), 4 + 32);
        Check.due("39 as it is", one.kinds(0, 2), 1 + 2 + 8 + 16);
        // The chained one is alone of its day; the bound one makes what it is bound to fall.
        Check.due("39 of what cites", one.kinds(1, 2), 1 + 4 + 32);
        Check.due("39 of what cites, falling", one.kinds(1, 1), 8 + 16);
        BackCourt u = Check.court("r00. r10+0.");
        Check.due("39 for", u.kinds(0, 3), 1 + 2 + 4 + 8 + 32);
        Check.due("39 bad", u.kinds(2, 0), Check.BAD);
        Check.due("39 bad", u.kinds(-1, 0), Check.BAD);
        Check.due("39 bad", u.kinds(0, 4), Check.BAD);
        Check.due("39 bad", u.kinds(0, -1), Check.BAD);
        Check.due("39 as it was", u.ruling(0, 0), 1);
        Check.due("39 as it was", u.asked(), 0);
    }

    private static void forged() {
        BackCourt x = Check.court("r00. k10-0. k20-0. r30+2.");
        Check.due("40 both cite", x.forged(15), 0);
        Check.due("40 whichever goes, another one is left, or neither matters", x.forged(14), 2 + 4 + 8);
        x.strike(2);
        Check.due("40 one", x.forged(3), 2);
        Check.due("40 it is a way with it", x.forged(2), 0);
        BackCourt bound = Check.court("r00. b10+0. k20-0.");
        Check.due("40 a bound one bound no more", bound.forged(6), 2);
        Check.due("40 none cites", Check.court("r00. r10.").forged(3), 0);
        BackCourt u = Check.court("u00. r10+0. r20.");
        Check.due("40 a rumour without what is for it", u.forged(6), 2);
        Check.due("40 as it is", u.forged(7), 0);
        Check.due("40 bad", u.forged(8), Check.BAD);
        Check.due("40 bad", u.forged(-1), Check.BAD);
        Check.due("40 as it was", u.count(1), 1);
        Check.due("40 of none", new BackCourt().forged(0), 0);
    }

    private static void torn(BackCourt x, int seen, int set, int ways, int least) {
        Check.due("41 torn(" + seen + ", " + set + ")", x.torn(seen, set), ways);
        Check.due("41 asked() of torn(" + seen + ", " + set + ")", x.asked(), least);
    }

    private static void torn() {
        BackCourt x = Check.court("c00. c00. c10. c10. k20.");
        torn(x, 0, 0, 4, 16);
        torn(x, 0, 31, 4, 16);
        torn(x, 1, 1, 2, 19);
        torn(x, 1, 31, 2, 19);
        torn(x, 1, 30, 2, 16);
        torn(x, 4, 4, 2, 28);
        torn(x, 5, 5, 1, 31);
        torn(x, 3, 1, 0, Check.NONE);
        torn(x, 31, 31, 1, 31);
        torn(x, 16, 0, 0, Check.NONE);
        Check.due("41 bad", x.torn(32, 0), Check.BAD);
        Check.due("41 bad", x.torn(-1, 0), Check.BAD);
        Check.due("41 bad", x.torn(0, 32), Check.BAD);
        Check.due("41 bad", x.torn(0, -1), Check.BAD);
        Check.due("41 as it was", x.asked(), Check.NONE);
        torn(Check.court("r00. b10-0."), 0, 0, 0, Check.NONE);
        torn(new BackCourt(), 0, 0, 1, 0);
    }

    /** What a number of the lots is due to file behind those that are there. */
    private static void lot(BackCourt x, long number, int i) {
        int day = (int) (number / 8 % 10);
        int[] earlier = new int[9];
        int many = 0;
        for (int j = 0; j < i; j++) {
            x.ruling(j, 1);
            if (x.asked() < day) {
                earlier[many++] = j;
            }
        }
        int cites = many == 0 ? Check.NONE : earlier[(int) (number / 256 % many)];
        int how = many == 0 ? 0 : number / 16384 % 2 == 0 ? -1 : 1;
        int[] due = {(int) (number % 6), day, (int) (number / 128 % 2), cites, how, 0};
        for (int what = 0; what < due.length; what++) {
            x.ruling(i, what);
            Check.due("42 ruling(" + i + ", " + what + ") by " + number, x.asked(), due[what]);
        }
    }

    private static void lots() {
        int[] seeds = {1, 2, 77, 2147483646, 48271, 1234567, 2000000000};
        for (int seed : seeds) {
            BackCourt x = Check.court("r00.1 r41.");
            Check.due("42 lots(7, " + seed + ")", x.lots(7, seed), 9);
            long number = seed;
            for (int i = 2; i < 9; i++) {
                number = number * 48271 % 2147483647L;
                lot(x, number, i);
            }
        }
        BackCourt x = Check.court("r00.1 r41.");
        Check.due("42 one", x.lots(1, 5), 3);
        Check.due("42 full", x.lots(7, 5), Check.FULL);
        Check.due("42 up to 9", x.lots(6, 5), 9);
        Check.due("42 full", x.lots(1, 5), Check.FULL);
        Check.due("42 n 0", x.lots(0, 5), Check.BAD);
        Check.due("42 n 10", x.lots(10, 5), Check.BAD);
        Check.due("42 n -1", x.lots(-1, 5), Check.BAD);
        Check.due("42 seed 0", x.lots(1, 0), Check.BAD);
        Check.due("42 seed -1", x.lots(1, -1), Check.BAD);
        Check.due("42 seed 2147483647", x.lots(1, 2147483647), Check.BAD);
        Check.due("42 nine", x.count(0), 9);
    }
}
