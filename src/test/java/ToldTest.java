/** Promises 43 to 49: what is told, and that what is refused changes nothing. */
public final class ToldTest {
    public static void main(String[] args) {
        asked();
        count();
        findings();
        digest();
        refused();
        Check.end();
    }

    private static void asked() {
        BackCourt x = Check.court("c01.0 c01.0 k50.1 r60.");
        x.like(0, 0);
        Check.due("43 like", x.asked(), -1);
        int[] untold = {x.due(0), x.nth(0), x.odds(0), x.together(0), x.flips(0), x.jam(), x.fell(0, 0), x.guard(0, 0),
            x.settle(0), x.matter(0), x.verdict(0, 0), x.freed(0), x.kinds(0, 0), x.forged(0), x.mark(0, 1),
            x.reverse(0, 1), x.marks(0, 1), x.file(0, 9, 0, 0, 1), x.keep(0), x.strike(4), x.on(0), x.lots(1, 1),
            x.count(0), x.finding(), x.findings(1), x.fault(0), x.text(1, 1), x.put(1, 0, 4), x.tear(0), x.row(0, 1),
            x.copy(0, 0, 0, 0, 1), x.court(0)};
        Check.due("43 calls that tell nothing", untold.length, 32);
        Check.due("43 as it was", x.asked(), -1);
        x.ways();
        Check.due("43 ways", x.asked(), 12);
        x.sure();
        Check.due("43 sure", x.asked(), 0);
        x.till(5);
        Check.due("43 till", x.asked(), 4);
        x.judge();
        Check.due("43 judge", x.asked(), 0);
        x.lay(0, 0, 7);
        x.at(0, 0);
        Check.due("43 at", x.asked(), 7);
        x.lay(0, 0, 8);
        Check.due("43 lay", x.asked(), 7);
        x.mean(0);
        Check.due("43 mean", x.asked(), 8);
        x.torn(0, 0);
        Check.due("43 torn", x.asked(), 12);
        x.surely(1);
        Check.due("43 surely", x.asked(), 1);
        x.code();
        Check.due("43 code", x.asked(), 0);
        x.ruling(0, 3);
        Check.due("43 ruling", x.asked(), Check.NONE);
        x.asked();
        Check.due("43 asked", x.asked(), Check.NONE);
    }

    private static void count() {
        BackCourt x = Check.court("r00. b10-0. f10+0. u20-1. c20+1. k30-2. c00. k00.");
        int[] want = {8, 5, 3, 3, 3, 0, 1, 0};
        for (int what = 0; what < want.length; what++) {
            Check.due("46 count(" + what + ")", x.count(what), want[what]);
        }
        x.row(0, 0);
        x.row(4, 3);
        x.text(3, 0);
        x.keep(0);
        x.keep(2);
        Check.due("46 rows", x.count(5), 2);
        Check.due("46 texts", x.count(6), 2);
        Check.due("46 kept", x.count(7), 2);
        Check.due("46 bad", x.count(8), Check.BAD);
        Check.due("46 bad", x.count(-1), Check.BAD);
    }

    private static void findings() {
        BackCourt x = Check.court("r00.");
        Check.due("47 before any", x.finding(), 0);
        x.at(0, 0);
        Check.due("47 nothing", x.finding(), 1);
        x.mark(0, 1);
        x.row(0, -1);
        x.row(0, 0);
        x.mean(0);
        x.at(0, 0);
        x.at(0, 1);
        Check.due("47 beyond", x.finding(), 2);
        x.row(9, 9);
        Check.due("47 not by bad", x.finding(), 2);
        int[] want = {1, 2, 1, 1, 1};
        for (int f = 1; f <= 5; f++) {
            Check.due("48 findings(" + f + ")", x.findings(f), want[f - 1]);
        }
        Check.due("48 bad", x.findings(0), Check.BAD);
        Check.due("48 bad", x.findings(6), Check.BAD);
        Check.due("48 bad", x.findings(-1), Check.BAD);
    }

    private static long join(long... values) {
        long h = 17;
        for (long v : values) {
            h = 31 * h + v;
        }
        return h;
    }

    private static void digest() {
        BackCourt x = new BackCourt();
        Check.due("49 a new one", x.digest(), join(0, 0, 0, 0, 0, 0, 0, 0, -1, -1, -1, -1, -1, -1, -1, -1, -1, -1, -1, -1, -1));
        x.file(4, 2, 1, Check.NONE, 0);
        x.file(5, 7, 0, 0, -1);
        x.marks(1, 19);
        x.keep(1);
        x.row(2, 2);
        x.lay(2, 1, -5);
        x.row(5, 0);
        x.text(1, 2);
        x.put(1, 0, 200);
        Check.due("49 all", x.digest(), join(2, 1, 1, 1, 1, 2, 1, 1,
                4, 2, 1, -9, 0, 0, 1, 5, 7, 0, 0, -1, 19, 0,
                -1, 2, -1,
                -1, -1, 2, 0, -5, -1, -1, 0,
                -1, 2, -56, 32, -1, -1));
        Check.due("49 not told", x.asked(), 0);
    }

    private static void refused() {
        BackCourt x = Check.court("r00. b11-0.3 k20+0.");
        x.row(0, 2);
        x.text(2, 2);
        x.keep(0);
        x.like(0, 7);
        long before = x.digest();
        int[] refusals = {x.row(0, -1), x.row(0, 41), x.lay(0, 2, 1), x.tear(1), x.copy(0, 1, 0, 0, 2), x.text(2, -1),
            x.put(2, 2, 1), x.court(3), x.ruling(9, 9), x.reverse(0, 2), x.marks(0, 32), x.file(0, 0, 0, 0, 1),
            x.strike(4), x.keep(3), x.on(1), x.due(8), x.nth(-1), x.till(10), x.fell(3, 0), x.guard(0, 6),
            x.settle(6), x.lots(7, 3), x.torn(8, 0), x.mean(4), x.mark(0, 1)};
        for (int k = 0; k < refusals.length; k++) {
            Check.due("refused " + k, refusals[k] < 0 ? 1 : 0, 1);
        }
        Check.due("refused: as it was", x.digest(), before);
        Check.due("refused: asked() as it was", x.asked(), -3);
    }
}
