import java.util.Arrays;

/** Promises 27 to 32, sentence by sentence: votes, and ends that were found. */
public final class Promises27To32Test {
    private static final String[] LINES = {"", "p50000", "p50000;p50000", "p10000;g20000;b30000",
        "p50304;g71015;b90002;y20901", "p10000;p10000;p10000;p10000", "g30000;p90000;p40000;y20000",
        "p19990;g29980;b39970;y49960;p59950;g69940;b79930",
        "y90000;y90000;y90000;y90000;y90000;y90000;y90000", "b10000;b90000;g90000;g10000;y80000"};
    private static final int WORLDS = 60;
    private static final int[] NO_STREAMER = {-1, 7, 8, 31, 32, Integer.MIN_VALUE,
        Integer.MAX_VALUE};

    public static void main(String[] args) throws Exception {
        Check.all(Promises27To32Test.class);
    }

    /** All hold, or one is DROPPED, or some are BROKEN. */
    private static StreamersHeld world(int number) {
        StreamersHeld x = Check.of(LINES[number % LINES.length], "9*(s=5)+9*(s=1)");
        int kind = number / LINES.length;
        if (kind % 3 == 1) {
            x.hours(2);
        }
        if (kind % 2 == 1) {
            x.drops(1);
        }
        return x;
    }

    private static void refused(StreamersHeld x, String call, int answer) {
        x.letting(9);
        Check.that(call, Check.call(x, call), answer);
        Check.row(call, x, 1, 4);
    }

    /** What each set of all STREAMERS counts. */
    private static int[] weights(StreamersHeld x) {
        int[] weights = new int[128];
        for (int i = 0; i < x.count(0); i++) {
            int strength = x.streamer(i, 1);
            for (int set = 0; set < 128; set++) {
                weights[set] += (set >> i & 1) * strength;
            }
        }
        return weights;
    }

    private static long divisor(long a, long b) {
        return b == 0 ? a : divisor(b, a % b);
    }

    private static void fraction(String what, StreamersHeld x, long upper, long lower) {
        long by = divisor(upper, lower);
        Check.row(what, x, upper / by, lower / by);
    }

    // ---- votes

    static void decides() {
        Check.about("each that HOLDS counts its STRENGTH; a set decides, if it counts more than half "
            + "of all that HOLD");
        StreamersHeld x = Check.of("p50000;p30000;p20000", "");
        x.power(0);
        Check.row("5 of 10 is not more than half: three sets of four", x, 3, 4);
        x.sheet(2, 3, 5, 0);
        x.sheet(2, 1, 3, 0);
        x.power(0);
        Check.row("3 of 5 is: all sets", x, 1, 1);
        x = Check.of("p50000;p40000;p90000", "10*(s=9)");
        x.power(0);
        Check.row("5 of 18", x, 1, 4);
        x.hours(1);
        x.power(0);
        Check.row("the BROKEN one does not count", x, 1, 1);
        x = Check.of("p50000;p50000", "");
        x.power(1);
        Check.row("half alone does not decide", x, 1, 2);
    }

    static void p27Power() {
        Check.promise(27, "Of all sets of the others that HOLD, the empty one, too, how many do not "
            + "decide, but do with one: 0; the ROW: that by all these sets, as a fraction.");
        for (int number = 0; number < WORLDS; number++) {
            for (int i = 0; i < world(number).count(0); i++) {
                StreamersHeld x = world(number);
                int hold = x.count(1);
                int[] weights = weights(x);
                int sets = 0;
                int tipped = 0;
                for (int set = 0; set < 128; set++) {
                    if ((set & ~hold) == 0 && (set >> i & 1) == 0) {
                        sets++;
                        boolean ahead = 2 * weights[set] > weights[hold];
                        boolean with = 2 * weights[set | 1 << i] > weights[hold];
                        tipped += !ahead && with ? 1 : 0;
                    }
                }
                if ((hold >> i & 1) == 0) {
                    refused(x, "power " + i, -2);
                } else {
                    Check.that(number + ": power(" + i + ")", x.power(i), 0);
                    fraction("power()", x, tipped, sets);
                }
            }
        }
    }

    static void p27Refused() {
        Check.promise(27, "-2: it does not HOLD; NONE: none such.");
        StreamersHeld x = Check.of("p50000;g10000;b30000", "9*(s=1)");
        x.hours(1);
        x.drops(2);
        refused(x, "power 1", -2);
        refused(x, "power 2", -2);
        refused(x, "power 3", -1);
        for (int i : NO_STREAMER) {
            refused(x, "power " + i, -1);
        }
        Check.that("alone", x.power(0), 0);
        Check.row("the empty set, too", x, 1, 1);
    }

    /** In how many orders of those that are left those who came decide first when one comes. */
    private static long tipping(int[] weights, int came, int left, int one) {
        long tipping = 0;
        int all = weights[came | left];
        for (int i = 0; i < 7; i++) {
            if ((left >> i & 1) == 1) {
                boolean ahead = 2 * weights[came] > all;
                boolean now = 2 * weights[came | 1 << i] > all;
                int rest = left & ~(1 << i);
                if (i == one) {
                    tipping += !ahead && now ? orders(rest) : 0;
                } else {
                    tipping += tipping(weights, came | 1 << i, rest, one);
                }
            }
        }
        return tipping;
    }

    private static long orders(int set) {
        return set == 0 ? 1 : Integer.bitCount(set) * orders(set & (set - 1));
    }

    static void p28Pivots() {
        Check.promise(28, "Of all orders in which those that HOLD can come, one behind the other, in "
            + "how many those who came decide first when one comes: 0; the ROW: that by all orders, "
            + "as a fraction.");
        for (int number = 0; number < WORLDS; number++) {
            for (int i = 0; i < world(number).count(0); i++) {
                StreamersHeld x = world(number);
                int hold = x.count(1);
                if ((hold >> i & 1) == 0) {
                    refused(x, "pivots " + i, -2);
                } else {
                    Check.that(number + ": pivots(" + i + ")", x.pivots(i), 0);
                    fraction("pivots()", x, tipping(weights(x), 0, hold, i), orders(hold));
                }
            }
        }
    }

    static void p28Refused() {
        Check.promise(28, "-2: it does not HOLD; NONE: none such.");
        StreamersHeld x = Check.of("p50000;g10000;b30000", "9*(s=1)");
        x.hours(1);
        x.drops(2);
        refused(x, "pivots 1", -2);
        refused(x, "pivots 2", -2);
        refused(x, "pivots 3", -1);
        for (int i : NO_STREAMER) {
            refused(x, "pivots " + i, -1);
        }
        Check.that("alone", x.pivots(0), 0);
        Check.row("the only order", x, 1, 1);
    }

    static void p29Colours() {
        Check.promise(29, "The COLOUR whose STREAMERS that HOLD count the most: of equal ones the "
            + "least; the ROW: how much each of the four counts.");
        for (int number = 0; number < WORLDS; number++) {
            StreamersHeld x = world(number);
            long[] counts = new long[4];
            for (int i = 0; i < x.count(0); i++) {
                counts[x.streamer(i, 0)] += x.streamer(i, 6) == 0 ? x.streamer(i, 1) : 0;
            }
            int best = 3;
            for (int colour = 2; colour >= 0; colour--) {
                best = counts[colour] >= counts[best] ? colour : best;
            }
            Check.that(number + ": colours()", x.colours(), best);
            Check.row("colours()", x, counts);
        }
    }

    static void p29OfEqualOnes() {
        Check.promise(29, "of equal ones the least");
        String[] lines = {"", "y50000;b50000", "y50000;b50000;g50000", "y90000;b40000;b50000",
            "y50000;p30000;p20000", "y10000"};
        int[] best = {0, 2, 1, 2, 0, 3};
        for (int i = 0; i < lines.length; i++) {
            Check.that(lines[i], Check.of(lines[i], "").colours(), best[i]);
        }
    }

    static void p30Parties() {
        Check.promise(30, "Those that HOLD are parted in two so that both parts count the least apart: "
            + "by how much; the ROW: one part (bits: of as good ones the least), what it counts.");
        for (int number = 0; number < WORLDS; number++) {
            StreamersHeld x = world(number);
            int hold = x.count(1);
            int[] weights = weights(x);
            int least = 999;
            int part = 0;
            for (int set = 127; set >= 0; set--) {
                int apart = Math.abs(weights[set & hold] - weights[hold & ~set]);
                if ((set & ~hold) == 0 && apart <= least) {
                    least = apart;
                    part = set;
                }
            }
            Check.that(number + ": parties()", x.parties(), least);
            Check.row("parties()", x, part, weights[part]);
        }
    }

    static void p30Edges() {
        Check.promise(30, "one part (bits: of as good ones the least), what it counts");
        String[] lines = {"", "p70000", "p90000;p90000", "p10000;p90000", "p90000;p10000",
            "p10000;p10000;p10000", "p90000;p90000;p90000;p90000;p90000;p90000;p90000"};
        int[][] want = {{0, 0, 0}, {7, 0, 0}, {0, 1, 9}, {8, 1, 1}, {8, 1, 9}, {1, 1, 1}, {9, 7, 27}};
        for (int i = 0; i < lines.length; i++) {
            StreamersHeld x = Check.of(lines[i], "");
            Check.that("parties() of " + lines[i], x.parties(), want[i][0]);
            Check.row("parties() of " + lines[i], x, want[i][1], want[i][2]);
        }
    }

    // ---- ends that were found

    static void p31Ends() {
        Check.promise(31, "in how many ways (sets of STREAMERS that do not HOLD) they can be just "
            + "those: how many; the ROW: the least set (nothing without).");
        for (int number = 0; number < WORLDS; number++) {
            StreamersHeld x = world(number);
            x.drops(number % 5);
            int many = x.count(0);
            int loose = (1 << many) - 1 & ~x.count(1);
            int[] colours = new int[many];
            for (int i = 0; i < many; i++) {
                colours[i] = x.streamer(i, 0);
            }
            for (int asked = 0; asked < 81; asked++) {
                int[] want = {asked % 3, asked / 3 % 3, asked / 9 % 3, asked / 27};
                int ways = 0;
                int least = 0;
                for (int set = 127; set >= 0; set--) {
                    if ((set & ~loose) == 0 && areJust(colours, set, want)) {
                        ways++;
                        least = set;
                    }
                }
                Check.that(number + ": ends()", x.ends(want[0], want[1], want[2], want[3]), ways);
                Check.that("numbers of the ROW", x.count(11), ways == 0 ? 0 : 1);
                Check.that("the least set", ways == 0 ? 0 : x.row(0), least);
            }
        }
    }

    private static boolean areJust(int[] colours, int set, int[] want) {
        int[] found = new int[4];
        for (int i = 0; i < colours.length; i++) {
            found[colours[i]] += set >> i & 1;
        }
        return Arrays.equals(found, want);
    }

    static void p31Edges() {
        Check.promise(31, "a, b, c, d (0 .. 7 each) ends of COLOURS 0 .. 3 came in on the tide");
        StreamersHeld none = new StreamersHeld();
        Check.that("no ends, no STREAMERS", none.ends(0, 0, 0, 0), 1);
        Check.row("no ends, no STREAMERS", none, 0);
        for (int colour = 0; colour < 4; colour++) {
            String line = "pgby".charAt(colour) + "10000";
            StreamersHeld x = Check.of((line + ";").repeat(6) + line, "9");
            int[] e = {0, 0, 0, 0};
            e[colour] = 1;
            Check.that("all HOLD", x.ends(e[0], e[1], e[2], e[3]), 0);
            Check.row("all HOLD", x);
            x.hours(1);
            int[] ways = {1, 7, 21, 35, 35, 21, 7, 1};
            for (int n = 0; n <= 7; n++) {
                e[colour] = n;
                Check.that(n + " of seven", x.ends(e[0], e[1], e[2], e[3]), ways[n]);
                Check.row(n + " of seven", x, (1 << n) - 1);
            }
        }
    }

    static void p31Others() {
        Check.promise(31, "NONE: others.");
        StreamersHeld x = Check.of("p50000;g10000;b30000", "9");
        x.hours(1);
        for (int i = 0; i < 4; i++) {
            for (int wrong : new int[] {-1, 8, 9, Integer.MIN_VALUE, Integer.MAX_VALUE}) {
                int[] e = {0, 0, 0, 0};
                e[i] = wrong;
                refused(x, "ends " + e[0] + " " + e[1] + " " + e[2] + " " + e[3], -1);
            }
        }
        Check.that("7 each can be asked", x.ends(7, 7, 7, 7), 0);
    }

    static void p32Just() {
        Check.promise(32, "The fewest STREAMERS whose LENGTHS together are just v (0 .. 9999): how "
            + "many; the ROW: they (bits: of as few the least), how many sets do.");
        String[] lines = {"p10919;p10929;p10939;g10939;b10949;y10909;y10919", "p19990;g19990",
            "p10909;p10909", "p10919;g10929;b10939"};
        for (String line : lines) {
            for (int v = 0; v <= 40; v++) {
                StreamersHeld x = Check.of(line, "9*(s<9)");
                x.hours(1);
                int best = -1;
                int sets = 0;
                int[] out = new int[7];
                for (int i = 0; i < x.count(0); i++) {
                    out[i] = x.streamer(i, 5);
                }
                for (int set = (1 << x.count(0)) - 1; set >= 0; set--) {
                    int sum = 0;
                    for (int i = 0; i < 7; i++) {
                        sum += (set >> i & 1) * out[i];
                    }
                    sets += sum == v ? 1 : 0;
                    boolean few = best < 0 || Integer.bitCount(set) <= Integer.bitCount(best);
                    best = sum == v && few ? set : best;
                }
                if (best < 0) {
                    refused(x, "just " + v, -2);
                } else {
                    Check.that("just(" + v + ") of " + line, x.just(v), Integer.bitCount(best));
                    Check.row("just(" + v + ") of " + line, x, best, sets);
                }
            }
        }
    }

    static void p32Edges() {
        Check.promise(32, "-2: none; NONE: another v.");
        StreamersHeld x = Check.of("p10909;p10919;g10919", "0");
        Check.that("just(0): no STREAMERS at all", x.just(0), 0);
        Check.row("just(0): all sets yet", x, 0, 8);
        refused(x, "just 1", -2);
        refused(x, "just 9999", -2);
        for (int v : new int[] {-1, 10000, Integer.MIN_VALUE, Integer.MAX_VALUE}) {
            refused(x, "just " + v, -1);
        }
        x.drops(1);
        x.hours(1);
        Check.that("just(1)", x.just(1), 1);
        Check.row("just(1)", x, 4, 4);
        Check.that("just(0)", x.just(0), 0);
        Check.row("just(0)", x, 0, 4);
        StreamersHeld none = new StreamersHeld();
        Check.that("just(0) of none", none.just(0), 0);
        Check.row("just(0) of none", none, 0, 1);
        refused(none, "just 1", -2);
    }
}
