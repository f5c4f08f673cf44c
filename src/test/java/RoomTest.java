import java.lang.management.ManagementFactory;
import java.util.NoSuchElementException;
import java.util.Random;

/**
 * Promises 1 to 53, each of their calls: that they make no objects (LANGUAGE.md, rule 12, and the
 * room of one run), and that nothing but what the document names is ever thrown (rules 6 and 7).
 */
public final class RoomTest {
    private static final int CALLS = 512;
    // to tell of the STREAMERS, and to look at the ROW in the end
    private static final int CALLS_AROUND = 17;

    public static void main(String[] args) {
        for (int seed = 0; seed < 300; seed++) {
            wild(new Random(seed));
        }
        room();
        Check.close("RoomTest");
    }

    private static int drawn(Random random) {
        switch (random.nextInt(4)) {
            case 0: return random.nextInt();
            case 1: return random.nextInt(200) - 100;
            default: return random.nextInt(8);
        }
    }

    /** Signs that come near to a text, so that some are taken. */
    private static int signs(Random random) {
        String near = "pgby0123456789;ksrvcn()+-*/<>=nprmds";
        int v = 0;
        for (int i = 0; i < 4; i++) {
            v = v << 8 | near.charAt(random.nextInt(near.length()));
        }
        return random.nextInt(20) == 0 ? random.nextInt() : v;
    }

    private static void wild(Random random) {
        StreamersHeld x = new StreamersHeld();
        if (random.nextInt(5) > 0) {
            Check.put(x, "p93052;g41234;b30929;y50100;p21119;g99990;b50000").streamers();
        }
        for (int i = 0; i < CALLS - CALLS_AROUND; i++) {
            int call = random.nextInt(58);
            String thrown = "";
            try {
                if (call > 52) {
                    x.sign(signs(random));
                } else {
                    one(x, call, random);
                }
            } catch (NoSuchElementException e) {
                thrown = call == 4 || call == 52 ? "" : "NoSuchElementException";
            } catch (RuntimeException e) {
                thrown = e.toString();
            }
            if (!thrown.isEmpty()) {
                Check.that("call " + call, thrown, "");
            }
        }
        Check.that("numbers of the ROW are few", x.count(11) >= 0 && x.count(11) <= 7, true);
    }

    private static int one(StreamersHeld x, int call, Random random) {
        int a = drawn(random);
        int b = drawn(random);
        int c = drawn(random);
        switch (call) {
            case 0: return x.sign(a);
            case 1: return x.end(a) ? 1 : 0;
            case 2: return x.streamers();
            case 3: return x.rule();
            case 4: return x.streamer(a, b);
            case 5: return x.sheet(a, b, c, drawn(random));
            case 6: return x.hours(a);
            case 7: return x.runs(a, b);
            case 8: return x.rates(a, b);
            case 9: return x.reels(a, b);
            case 10: return x.drops(a);
            case 11: return x.speed(a);
            case 12: return x.sailing();
            case 13: return x.undo();
            case 14: return x.later(a);
            case 15: return x.when(a);
            case 16: return x.order();
            case 17: return x.gone();
            case 18: return x.stopped();
            case 19: return x.drag();
            case 20: return x.thrift(a, b);
            case 21: return x.mole(a, b);
            case 22: return x.slows(a, b);
            case 23: return x.halts();
            case 24: return x.frees(a, b);
            case 25: return x.power(a);
            case 26: return x.pivots(a);
            case 27: return x.colours();
            default: return another(x, call, random);
        }
    }

    private static int another(StreamersHeld x, int call, Random random) {
        int a = drawn(random);
        int b = drawn(random);
        int c = drawn(random);
        switch (call) {
            case 28: return x.parties();
            case 29: return x.ends(a, b, c, drawn(random));
            case 30: return x.just(a);
            case 31: return x.seen(a, b, c);
            case 32: return x.forget();
            case 33: return x.guess();
            case 34: return x.looks();
            case 35: return x.heard(a, b);
            case 36: return x.denies();
            case 37: return x.fits();
            case 38: return x.asks();
            case 39: return x.odds(a, b);
            case 40: return x.saw(a, b, c);
            case 41: return x.clears();
            case 42: return x.laws();
            case 43: return x.tries();
            case 44: return x.letting(a);
            case 45: return x.law();
            case 46: return x.wars(a);
            case 47: return x.years(a, b);
            case 48: return x.keep(a) ? 1 : 0;
            case 49: return x.again(a) ? 1 : 0;
            case 50: return x.count(a);
            case 51: return x.undo();
            default: return (int) x.row(a);
        }
    }

    /** The dearest calls, over and over: what they take is far below one object a call. */
    private static void room() {
        if (!(ManagementFactory.getThreadMXBean() instanceof com.sun.management.ThreadMXBean)) {
            return;
        }
        com.sun.management.ThreadMXBean bean =
            (com.sun.management.ThreadMXBean) ManagementFactory.getThreadMXBean();
        long id = Thread.currentThread().getId();
        StreamersHeld[] many = new StreamersHeld[11];
        for (int i = 0; i < many.length; i++) {
            many[i] = Check.of("p93052;g41234;b30929;y50100;p21119;g99990;b50000", "k/9+c");
        }
        long sum = dear(many[10]);
        long before = bean.getThreadAllocatedBytes(id);
        for (int i = 0; i < 100; i++) {
            sum += dear(many[i % 10]);
        }
        long taken = bean.getThreadAllocatedBytes(id) - before;
        Check.that("3000 calls take less than 30000 bytes: " + taken, taken < 30000, true);
        Check.that("they answer", sum != 0, true);
    }

    private static long dear(StreamersHeld x) {
        long sum = x.sign('k' << 24 | '+' << 16 | '(' << 8 | 'c') + (x.end(1) ? 1 : 0) + x.law();
        sum += x.frees(0, 60) + x.thrift(1, 60) + x.mole(2, 60) + x.slows(3, 60) + x.order();
        sum += x.power(0) + x.pivots(1) + x.parties() + x.halts() + x.just(5) + x.odds(3, 9);
        sum += x.looks() + x.asks() + x.tries() + x.letting(60) + x.wars(7) + x.years(5, 60);
        sum += x.hours(1) + x.undo() + (x.keep(1) ? 1 : 0) + (x.again(1) ? 1 : 0) + x.later(99);
        x.sign('s' << 24 | '9' << 16 | 'n' << 8 | '1');
        return sum + x.sailing() + x.undo() + x.guess() + x.when(0) + x.gone() + x.stopped();
    }
}
