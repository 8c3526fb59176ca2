import java.lang.management.ManagementFactory;
import java.util.Random;

/** The room: objects are made with the object alone, so that no run of calls fills it. */
public final class RoomTest {
    private static final com.sun.management.ThreadMXBean ROOM =
            (com.sun.management.ThreadMXBean) ManagementFactory.getThreadMXBean();

    private static long made() {
        return ROOM.getThreadAllocatedBytes(Thread.currentThread().getId());
    }

    public static void main(String[] args) {
        BackCourt first = new BackCourt();
        all(first, 1);
        made();
        long before = made();
        BackCourt second = new BackCourt();
        long object = made() - before;
        before = made();
        all(second, 7);
        long calls = made() - before;
        Check.holds("an object is small: " + object, object < 20000);
        Check.holds("calls make next to nothing: " + calls, calls < 20000);
        rough();
        Check.end();
    }

    /** Every call that looks at ways, texts or cases, many times. */
    private static void all(BackCourt x, int seed) {
        for (int k = 0; k < 40; k++) {
            x.strike(0);
            x.lots(9, seed + k * 1000);
            for (int i = 0; i < 9; i++) {
                x.fell(i, 0);
                x.guard(i, 1);
                x.matter(i);
                x.flips(i);
                x.odds(i);
                x.together(i);
                x.kinds(i, 5);
                x.mark(i, 5);
                x.marks(i, k % 32);
            }
            x.settle(2);
            x.judge();
            x.jam();
            x.code();
            x.forged(3);
            x.torn(1, 1);
            x.sure();
            x.surely(4);
            x.freed(2);
            x.keep(k % 3);
            x.on(k % 3);
            x.row(3, 40);
            x.copy(3, 0, 3, 1, 39);
            x.mean(3);
            x.text(0, 80);
            x.fault(0);
            x.digest();
        }
        x.court(0);
    }

    /** Numbers of any kind, in any state: nothing may be thrown. */
    private static void rough() {
        Random chance = new Random(5);
        int answers = 0;
        for (int run = 0; run < 3000; run++) {
            BackCourt x = new BackCourt();
            for (int k = 0; k < 60; k++) {
                answers += one(x, chance.nextInt(44), odd(chance), odd(chance), odd(chance), odd(chance), odd(chance)) < 0 ? 1 : 0;
            }
        }
        Check.holds("refusals: " + answers, answers > 0);
    }

    private static int odd(Random chance) {
        switch (chance.nextInt(8)) {
            case 0: return chance.nextInt();
            case 1: return Integer.MIN_VALUE + chance.nextInt(2);
            case 2: return Integer.MAX_VALUE - chance.nextInt(2);
            case 3: return chance.nextInt(100) - 50;
            case 4: return -9;
            default: return chance.nextInt(7) - 1;
        }
    }

    private static int one(BackCourt x, int f, int a, int b, int c, int d, int e) {
        switch (f) {
            case 0: return x.row(a, b);
            case 1: return x.lay(a, b, c);
            case 2: return x.at(a, b);
            case 3: return x.tear(a);
            case 4: return x.copy(a, b, c, d, e);
            case 5: return x.mean(a);
            case 6: return x.text(a, b);
            case 7: return x.put(a, b, c);
            case 8: return x.fault(a);
            case 9: return x.court(a);
            case 10: return x.ruling(a, b);
            case 11: return x.mark(a, b);
            case 12: return x.reverse(a, b);
            case 13: return x.marks(a, b);
            case 14: return x.file(a, b, c, d, e);
            case 15: return x.strike(a);
            case 16: return x.keep(a);
            case 17: return x.on(a);
            case 18: return x.due(a);
            case 19: return x.ways();
            case 20: return x.nth(a);
            case 21: return x.sure();
            case 22: return x.odds(a);
            case 23: return x.together(a);
            case 24: return x.till(a);
            case 25: return x.flips(a);
            case 26: return x.jam();
            case 27: return x.fell(a, b);
            case 28: return x.guard(a, b);
            case 29: return x.settle(a);
            case 30: return x.matter(a);
            case 31: return x.judge();
            case 32: return x.like(a, b);
            case 33: return x.verdict(a, b);
            case 34: return x.surely(a);
            case 35: return x.freed(a);
            case 36: return x.code();
            case 37: return x.kinds(a, b);
            case 38: return x.forged(a);
            case 39: return x.torn(a, b);
            case 40: return x.lots(a, b);
            case 41: return x.count(a);
            case 42: return x.findings(a);
            default: return (int) x.digest();
        }
    }
}
