import java.util.Arrays;

/**
 * Promises 16 to 26, sentence by sentence: their boundary cases. What is asked of HOURS to come is
 * compared with what comes when it is really done on a new object.
 */
public final class Promises16To26Test {
    private static final String[] LINES = {"p39924;g41215;b90002;y20901", "p50000;p50000;p50000",
        "p19990;g29980;b39970;y49960;p59950;g69940;b79930", "p90000;p90009;g90009", "g10005",
        "y52030;y52131;y52232;y52333"};
    private static final String[] RULES = {"", "k/3", "99*(n=s)", "k-c*2", "3*c+(n>3)*2",
        "(v>2)*(k+4)", "k*(n=2)-r/9", "0", "9*(p>3)+(k>0)*s+(k>s)", "99"};
    private static final int[] NO_SPAN = {0, -1, 61, 62, Integer.MIN_VALUE, Integer.MAX_VALUE};
    private static final int[] SPANS = {1, 2, 3, 5, 9, 20, 59, 60};
    private static final int WORLDS = 60;

    public static void main(String[] args) throws Exception {
        Check.all(Promises16To26Test.class);
    }

    /** WAY 9 times so many HOURS, at SPEED 9, by a STREAMER that holds nothing back. */
    private static StreamersHeld farOff(int hours) {
        StreamersHeld x = Check.of("p40000", "0");
        x.speed(9);
        for (int left = hours; left > 0; left -= 60) {
            x.hours(left < 60 ? left : 60);
        }
        return x;
    }

    private static StreamersHeld world(int number) {
        StreamersHeld x = Check.of(LINES[number % LINES.length], RULES[number % RULES.length]);
        if (number % 3 == 1 && x.count(0) > 1) {
            x.drops(1);
        }
        x.hours(number % 4);
        return x;
    }

    private static void refused(StreamersHeld x, String call) {
        x.letting(9);
        Check.that(call, Check.call(x, call), -1);
        Check.row(call, x, 1, 4);
    }

    private static void none(StreamersHeld x, String call) {
        x.letting(9);
        Check.that(call, Check.call(x, call), -2);
        Check.row(call, x, 1, 4);
    }

    private static void spansAndOnes(String call) {
        StreamersHeld x = Check.of("p50304;g71015;b90002", "0");
        for (int n : NO_SPAN) {
            refused(x, call + " 0 " + n);
            refused(x, call + " 3 " + n);
        }
        for (int i : new int[] {-1, 3, 7, 32, Integer.MIN_VALUE, Integer.MAX_VALUE}) {
            refused(x, call + " " + i + " 1");
        }
        refused(new StreamersHeld(), call + " 0 1");
        Check.that("1 can be asked", Check.call(x, call + " 2 1") >= 0, true);
        Check.that("60 can be asked", Check.call(x, call + " 2 60") >= 0, true);
    }

    private static boolean holds(StreamersHeld x, int i) {
        return (x.count(1) >> i & 1) == 1;
    }

    private static int bits(int set) {
        return Integer.bitCount(set);
    }

    // ---- hours to come

    static void p16Later() {
        Check.promise(16, "WAY in n HOURS (0 .. 99); the ROW: which HOLD then (bits), which are TAUT "
            + "then (bits).");
        for (int number = 0; number < WORLDS; number++) {
            StreamersHeld x = world(number);
            StreamersHeld y = world(number);
            int way = y.count(2);
            for (int n = 0; n <= 99; n++) {
                y.drag();
                long taut = y.row(0);
                Check.that(number + ": later(" + n + ")", x.later(n), way);
                Check.that("which HOLD", x.row(0), y.count(1));
                Check.that("which are TAUT", x.row(1), taut);
                Check.that("two numbers", x.count(11), 2);
                way = y.hours(1);
            }
        }
    }

    static void p16Another() {
        Check.promise(16, "NONE: another n.");
        for (int n : new int[] {-1, 100, 101, Integer.MIN_VALUE, Integer.MAX_VALUE}) {
            refused(world(0), "later " + n);
        }
        Check.that("none yet in 0", new StreamersHeld().later(0), 0);
        Check.that("in 99", new StreamersHeld().later(99), 297);
    }

    static void p17When() {
        Check.promise(17, "Behind how many HOURS (0: now .. 99) one HOLDS no more first: how many; the "
            + "ROW: WAY then, its LENGTH then.");
        for (int number = 0; number < WORLDS; number++) {
            StreamersHeld x = world(number);
            for (int i = 0; i < x.count(0); i++) {
                StreamersHeld y = world(number);
                int behind = 0;
                while (behind < 100 && holds(y, i)) {
                    y.hours(1);
                    behind++;
                }
                if (behind == 100) {
                    none(x, "when " + i);
                } else {
                    Check.that(number + ": when(" + i + ")", x.when(i), behind);
                    Check.row("when(" + i + ")", x, y.count(2), y.streamer(i, 5));
                }
            }
        }
    }

    static void p17Now() {
        Check.promise(17, "(0: now .. 99)");
        StreamersHeld x = Check.of("p10340;p90009", "3*(s=1)");
        x.drops(1);
        Check.that("DROPPED now", x.when(1), 0);
        Check.row("DROPPED now", x, 0, 0);
        x.hours(1);
        x.hours(1);
        Check.that("BROKEN now", x.when(0), 0);
        Check.row("BROKEN now", x, 6, 3);
    }

    static void p17Behind99() {
        Check.promise(17, "-2: behind none of these;");
        Check.that("behind 99", Check.of("p40000", "9*(k=297)").when(0), 99);
        none(Check.of("p40000", "9*(k=300)"), "when 0");
        none(Check.of("p40000", "0"), "when 0");
        StreamersHeld x = Check.of("p40000", "9*(k=300)");
        x.hours(1);
        Check.that("from now on", x.when(0), 99);
        Check.row("from now on", x, 300, 0);
    }

    static void p17NoneSuch() {
        Check.promise(17, "NONE: none such.");
        for (int i : new int[] {-1, 4, 7, 32, Integer.MIN_VALUE, Integer.MAX_VALUE}) {
            refused(world(0), "when " + i);
        }
    }

    static void p18Order() {
        Check.promise(18, "STREAMERS that come to be BROKEN in the next 99 HOURS, in turn (in one HOUR "
            + "by their numbers): how many; the ROW: they.");
        for (int number = 0; number < WORLDS; number++) {
            StreamersHeld x = world(number);
            StreamersHeld y = world(number);
            long[] order = new long[7];
            int many = 0;
            for (int hour = 0; hour < 99; hour++) {
                int was = y.count(5);
                y.hours(1);
                int now = y.count(5) & ~was;
                for (int i = 0; i < 7; i++) {
                    if ((now >> i & 1) == 1) {
                        order[many] = i;
                        many++;
                    }
                }
            }
            Check.that(number + ": order()", x.order(), many);
            Check.row("order()", x, Arrays.copyOf(order, many));
        }
    }

    static void p18InOneHour() {
        Check.promise(18, "(in one HOUR by their numbers)");
        StreamersHeld x = Check.of("p10000;p10000;p20000;p10000;p10000;p20000;p10000", "9*(n=2-s)");
        Check.that("order()", x.order(), 7);
        Check.row("order()", x, 2, 5, 0, 1, 3, 4, 6);
    }

    static void p18Next99() {
        Check.promise(18, "in the next 99 HOURS");
        StreamersHeld x = Check.of("p10000;g30000", "9*(k=s*99+198)+9*(s=3)*(k=297)");
        Check.that("in the 99th both", x.order(), 2);
        Check.row("in the 99th both", x, 0, 1);
        x = Check.of("p10000;g30000", "9*(k=297)*(s=3)+9*(k=300)*(s=1)");
        Check.that("in the 99th one", x.order(), 1);
        Check.row("in the 99th one", x, 1);
        x.hours(1);
        Check.that("both now", x.order(), 2);
        Check.row("both now", x, 1, 0);
    }

    static void p18None() {
        Check.promise(18, "how many; the ROW: they.");
        StreamersHeld x = Check.of("p10000", "0");
        x.fits();
        Check.that("none", x.order(), 0);
        Check.row("none", x);
        Check.that("no STREAMERS", new StreamersHeld().order(), 0);
        x = Check.of("p10000;g10000", "9");
        x.drops(1);
        x.hours(1);
        Check.that("neither BROKEN nor DROPPED ones", x.order(), 0);
    }

    static void p19Gone() {
        Check.promise(19, "Behind how many HOURS (0 .. 99) none HOLDS first: how many; the ROW: WAY "
            + "then.");
        for (int number = 0; number < WORLDS; number++) {
            StreamersHeld x = world(number);
            StreamersHeld y = world(number);
            int behind = 0;
            while (behind < 100 && y.count(1) != 0) {
                y.hours(1);
                behind++;
            }
            if (behind == 100) {
                none(x, "gone");
            } else {
                Check.that(number + ": gone()", x.gone(), behind);
                Check.row("gone()", x, y.count(2));
            }
        }
    }

    static void p19Edges() {
        Check.promise(19, "-2: behind none of these.");
        StreamersHeld x = Check.of("p30000;g10000", "9*(k=297)+9*(s=1)");
        Check.that("behind 99", x.gone(), 99);
        Check.row("behind 99", x, 297);
        none(Check.of("p30000;g10000", "9*(k=300)+9*(s=1)"), "gone");
        none(Check.of("p40000", "0"), "gone");
        x = new StreamersHeld();
        x.hours(2);
        Check.that("no STREAMERS: now", x.gone(), 0);
        Check.row("no STREAMERS: now", x, 6);
        x = Check.of("p40000;g10000", "0");
        x.drops(0);
        x.drops(1);
        Check.that("all DROPPED: now", x.gone(), 0);
        Check.row("all DROPPED: now", x, 0);
    }

    static void p20Stopped() {
        Check.promise(20, "On which of the next HOURS (1 .. 99) WAY is no more than ahead of it first: "
            + "it; the ROW: on how many of these 99, WAY then (behind the first).");
        for (int number = 0; number < WORLDS; number++) {
            StreamersHeld x = world(number);
            StreamersHeld y = world(number);
            int first = 0;
            int still = 0;
            int way = 0;
            for (int hour = 1; hour <= 99; hour++) {
                int was = y.count(2);
                if (y.hours(1) == was) {
                    still++;
                    first = still == 1 ? hour : first;
                    way = still == 1 ? was : way;
                }
            }
            if (still == 0) {
                none(x, "stopped");
            } else {
                Check.that(number + ": stopped()", x.stopped(), first);
                Check.row("stopped()", x, still, way);
            }
        }
    }

    static void p20Edges() {
        Check.promise(20, "-2: on none.");
        StreamersHeld x = farOff(1013);
        Check.that("WAY", x.count(2), 9117);
        Check.that("on the 99th", x.stopped(), 99);
        Check.row("on the 99th", x, 1, 9999);
        none(farOff(1012), "stopped");
        x = farOff(1014);
        Check.that("on the 98th", x.stopped(), 98);
        Check.row("on the 98th", x, 2, 9999);
        x = farOff(1111);
        Check.that("on the next", x.stopped(), 1);
        Check.row("on the next", x, 99, 9999);
        x = farOff(1110);
        x.speed(0);
        x.hours(1);
        x.speed(8);
        Check.that("1 more is more", x.stopped(), 3);
        Check.row("1 more is more", x, 97, 9999);
        none(new StreamersHeld(), "stopped");
        x = new StreamersHeld();
        x.speed(0);
        Check.that("on the first", x.stopped(), 1);
        Check.row("on the first", x, 99, 0);
    }

    static void p21Drag() {
        Check.promise(21, "DRAG now: it; the ROW: which are TAUT (bits), the sum of STRENGTH of all "
            + "that HOLD.");
        StreamersHeld x = new StreamersHeld();
        Check.that("no STREAMERS", x.drag(), 0);
        Check.row("no STREAMERS", x, 0, 0);
        x = Check.of("p90000;g50001;b60000;y80000", "9*(s=8)");
        x.drops(2);
        Check.that("17 by 5", x.drag(), 3);
        Check.row("17 by 5", x, 9, 22);
        x.hours(1);
        Check.that("not more than SPEED holds", x.count(2), 0);
        Check.that("9 by 5", x.drag(), 1);
        Check.row("9 by 5", x, 1, 14);
        x.hours(1);
        Check.that("14 by 5", x.drag(), 2);
        Check.row("14 by 5", x, 3, 14);
        x.drops(2);
        Check.that("20 by 5", x.drag(), 4);
        Check.row("20 by 5", x, 7, 20);
        x.speed(1);
        Check.that("more than SPEED", x.drag(), 4);
    }

    // ---- so that it holds

    private static int heldBehind(StreamersHeld y, int i, int n) {
        int held = 0;
        for (int hour = 0; hour < n && holds(y, i); hour++) {
            y.hours(1);
            held += holds(y, i) ? 1 : 0;
        }
        return held;
    }

    static void p22Thrift() {
        Check.promise(22, "The least RATE (0 .. 9, instead of its own from now on) by which one HOLDS "
            + "behind n HOURS (1 .. 60): it; the ROW: by how many of the ten it does.");
        for (int number = 0; number < WORLDS; number++) {
            int n = SPANS[number % SPANS.length];
            for (int i = 0; i < world(number).count(0); i++) {
                int least = -2;
                int many = 0;
                for (int rate = 9; rate >= 0; rate--) {
                    StreamersHeld y = world(number);
                    y.rates(i, rate);
                    if (heldBehind(y, i, n) == n) {
                        least = rate;
                        many++;
                    }
                }
                if (many == 0) {
                    none(world(number), "thrift " + i + " " + n);
                } else {
                    StreamersHeld x = world(number);
                    Check.that(number + ": thrift(" + i + ", " + n + ")", x.thrift(i, n), least);
                    Check.row("thrift()", x, many);
                }
            }
        }
    }

    static void p22Edges() {
        Check.promise(22, "-2: by none; NONE: others.");
        spansAndOnes("thrift");
        StreamersHeld x = Check.of("p39909", "9*(r>90)");
        Check.that("9 alone", x.thrift(0, 1), 9);
        Check.row("9 alone", x, 1);
        x = Check.of("p39909", "9*(r<99)");
        Check.that("0 alone", x.thrift(0, 60), 0);
        Check.row("0 alone", x, 1);
        x = Check.of("p39909", "0");
        Check.that("all ten", x.thrift(0, 60), 0);
        Check.row("all ten", x, 10);
        x.drops(0);
        none(x, "thrift 0 1");
        none(Check.of("p39909", "4"), "thrift 0 1");
        x = Check.of("p30000", "4*(k>176)");
        Check.that("59 HOURS", x.thrift(0, 58), 0);
        none(x, "thrift 0 59");
    }

    static void p23Mole() {
        Check.promise(23, "The PLACE (0 .. 9) to be run to now by which one HOLDS behind the most of "
            + "1, 2, .. n HOURS (1 .. 60): of equal ones the least: it; the ROW: behind how many, "
            + "behind how many as it is.");
        for (int number = 0; number < WORLDS; number++) {
            int n = SPANS[number % SPANS.length];
            for (int i = 0; i < world(number).count(0); i++) {
                int best = 0;
                int most = -1;
                for (int place = 0; place <= 9; place++) {
                    StreamersHeld y = world(number);
                    y.runs(i, place);
                    int held = heldBehind(y, i, n);
                    if (held > most) {
                        most = held;
                        best = place;
                    }
                }
                StreamersHeld x = world(number);
                Check.that(number + ": mole(" + i + ", " + n + ")", x.mole(i, n), best);
                Check.row("mole()", x, most, heldBehind(world(number), i, n));
            }
        }
    }

    static void p23Edges() {
        Check.promise(23, "of equal ones the least: it; the ROW: behind how many, behind how many as "
            + "it is. NONE: others.");
        spansAndOnes("mole");
        StreamersHeld x = Check.of("p30005", "0");
        Check.that("all are equal", x.mole(0, 60), 0);
        Check.row("all are equal", x, 60, 60);
        x = Check.of("p30005", "9*(p<9)");
        Check.that("9 alone", x.mole(0, 60), 9);
        Check.row("9 alone", x, 60, 0);
        x = Check.of("p30005", "9");
        Check.that("none", x.mole(0, 60), 0);
        Check.row("none", x, 0, 0);
        x = Check.of("p30005", "0");
        x.drops(0);
        Check.that("a DROPPED one", x.mole(0, 60), 0);
        Check.row("a DROPPED one", x, 0, 0);
    }

    static void p24Slows() {
        Check.promise(24, "The greatest SPEED (0 .. 9, instead of its own from now on) by which k "
            + "(0 .. 7) or more HOLD behind n HOURS (1 .. 60): it; the ROW: how many do by it, how "
            + "many as it is.");
        for (int number = 0; number < WORLDS; number++) {
            int n = SPANS[number % SPANS.length];
            int[] hold = new int[10];
            for (int speed = 0; speed <= 9; speed++) {
                StreamersHeld y = world(number);
                y.speed(speed);
                y.hours(n);
                hold[speed] = bits(y.count(1));
            }
            for (int k = 0; k <= 7; k++) {
                int speed = 9;
                while (speed >= 0 && hold[speed] < k) {
                    speed--;
                }
                StreamersHeld x = world(number);
                if (speed < 0) {
                    none(x, "slows " + k + " " + n);
                } else {
                    Check.that(number + ": slows(" + k + ", " + n + ")", x.slows(k, n), speed);
                    Check.row("slows()", x, hold[speed], hold[3]);
                }
            }
        }
    }

    static void p24Edges() {
        Check.promise(24, "-2: by none; NONE: others.");
        StreamersHeld x = Check.of("p50304;g71015;b90002", "0");
        for (int n : NO_SPAN) {
            refused(x, "slows 0 " + n);
            refused(x, "slows 8 " + n);
        }
        for (int k : new int[] {-1, 8, 9, Integer.MIN_VALUE, Integer.MAX_VALUE}) {
            refused(x, "slows " + k + " 1");
        }
        none(x, "slows 4 1");
        none(x, "slows 7 60");
        Check.that("0 are always", new StreamersHeld().slows(0, 60), 9);
        Check.that("just 3", x.slows(3, 60), 9);
        Check.row("just 3", x, 3, 3);
        x = Check.of("p50000", "9*(v>0)");
        Check.that("0 alone", x.slows(1, 60), 0);
        Check.row("0 alone", x, 1, 0);
        none(Check.of("p50000", "9"), "slows 1 1");
        x = Check.of("p10000;p10000;p10000;p10000;p10000;p10000;p10000", "9*(v>4)");
        Check.that("all seven", x.slows(7, 60), 4);
        Check.row("all seven", x, 7, 7);
        x.speed(5);
        Check.that("as it is none would", x.slows(7, 1), 4);
        Check.row("as it is none would", x, 7, 0);
    }

    private static int[] strengths(StreamersHeld x) {
        int[] strengths = new int[x.count(0)];
        for (int i = 0; i < strengths.length; i++) {
            strengths[i] = x.streamer(i, 1);
        }
        return strengths;
    }

    private static int weight(int[] strengths, int set) {
        int sum = 0;
        for (int i = 0; i < strengths.length; i++) {
            sum += (set >> i & 1) * strengths[i];
        }
        return sum;
    }

    static void p25Halts() {
        Check.promise(25, "The fewest that HOLD whose STRENGTH together, by 5 (cut), is SPEED or more: "
            + "how many; the ROW: they (bits: of as few the least).");
        for (int number = 0; number < WORLDS; number++) {
            for (int speed = 0; speed <= 9; speed++) {
                StreamersHeld x = world(number);
                x.speed(speed);
                int[] strengths = strengths(x);
                int holding = x.count(1);
                int best = -1;
                for (int set = 127; set >= 0; set--) {
                    boolean hold = (set & ~holding) == 0;
                    boolean few = best < 0 || bits(set) <= bits(best);
                    best = hold && few && weight(strengths, set) / 5 >= speed ? set : best;
                }
                if (best < 0) {
                    none(x, "halts");
                } else {
                    Check.that(number + ": halts() at " + speed, x.halts(), bits(best));
                    Check.row("halts()", x, best);
                }
            }
        }
    }

    static void p25Edges() {
        Check.promise(25, "by 5 (cut), is SPEED or more");
        StreamersHeld x = Check.of("p50009", "0");
        x.speed(1);
        Check.that("5 by 5 is 1; it need not be TAUT", x.halts(), 1);
        Check.row("5 by 5", x, 1);
        x.sheet(0, 1, 4, 0);
        none(x, "halts");
        x = Check.of("p90000;p90000;p90000;p90000;p90000;p90000;p90000", "0");
        x.speed(9);
        Check.that("45 by 5 is 9", x.halts(), 5);
        Check.row("45 by 5 is 9", x, 31);
        x.sheet(2, 7, 7, 0);
        Check.that("49 by 5 is 9, 42 by 5 is 8: all seven", x.halts(), 7);
        Check.row("all seven", x, 127);
        x.sheet(2, 7, 6, 0);
        none(x, "halts");
        x = Check.of("p30000;p30000;p30000;p50000;p50000", "0");
        x.speed(1);
        Check.that("one, of these the least", x.halts(), 1);
        Check.row("one, of these the least", x, 8);
        x.speed(2);
        Check.that("two of 5", x.halts(), 2);
        Check.row("two of 5", x, 24);
    }

    static void p25None() {
        Check.promise(25, "-2: by none.");
        none(new StreamersHeld(), "halts");
        StreamersHeld x = new StreamersHeld();
        x.speed(0);
        Check.that("SPEED 0: by nobody", x.halts(), 0);
        Check.row("SPEED 0: by nobody", x, 0);
        x = Check.of("p90000;p60000", "0");
        Check.that("15 by 5", x.halts(), 2);
        x.drops(0);
        none(x, "halts");
        x.drops(0);
        Check.put(x, "7*(s=6)").rule();
        x.hours(1);
        none(x, "halts");
    }

    static void p26Frees() {
        Check.promise(26, "Of the others who HOLD, the fewest to be DROPPED now so that one HOLDS "
            + "behind n HOURS (1 .. 60): how many; the ROW: they (bits: of as few the least).");
        for (int number = 0; number < WORLDS; number++) {
            int n = SPANS[number % SPANS.length];
            int hold = world(number).count(1);
            for (int i = 0; i < world(number).count(0); i++) {
                int best = -1;
                for (int set = 127; set >= 0; set--) {
                    boolean others = (set & ~hold) == 0 && (set >> i & 1) == 0;
                    if (others && (best < 0 || bits(set) <= bits(best))) {
                        best = holdsWithout(world(number), i, set, n) ? set : best;
                    }
                }
                StreamersHeld x = world(number);
                if (best < 0) {
                    none(x, "frees " + i + " " + n);
                } else {
                    Check.that(number + ": frees(" + i + ", " + n + ")", x.frees(i, n), bits(best));
                    Check.row("frees()", x, best);
                }
            }
        }
    }

    private static boolean holdsWithout(StreamersHeld y, int i, int set, int n) {
        for (int other = 0; other < 7; other++) {
            if ((set >> other & 1) == 1) {
                y.drops(other);
            }
        }
        return holds(y, i) && heldBehind(y, i, n) == n;
    }

    static void p26Edges() {
        Check.promise(26, "-2: by none; NONE: others.");
        spansAndOnes("frees");
        StreamersHeld x = Check.of("p50000;p50000;p50000;p50000;p50000;p50000;p50000", "6*c");
        Check.that("all six others", x.frees(3, 60), 6);
        Check.row("all six others", x, 127 - 8);
        Check.put(x, "5-(c<6)+(c>5)*9").rule();
        Check.that("one, the least", x.frees(0, 60), 1);
        Check.row("one, the least", x, 2);
        Check.put(x, "0").rule();
        Check.that("none need be", x.frees(0, 60), 0);
        Check.row("none need be", x, 0);
        x.drops(0);
        none(x, "frees 0 1");
        Check.put(x, "6").rule();
        none(x, "frees 1 1");
        x.hours(1);
        none(x, "frees 1 1");
    }

    static void p26OthersWhoHold() {
        Check.promise(26, "Of the others who HOLD");
        StreamersHeld x = Check.of("p50000;g50000;p50000;p50000", "3*c");
        x.drops(2);
        Check.that("not the DROPPED one", x.frees(0, 1), 0);
        x.drops(2);
        Check.that("of those that do", x.frees(0, 1), 1);
        Check.row("of those that do", x, 4);
        Check.that("not itself", x.frees(3, 1), 1);
        Check.row("not itself", x, 1);
    }
}
