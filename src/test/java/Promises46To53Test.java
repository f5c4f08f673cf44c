import java.math.BigInteger;

/** Promises 46 to 53, sentence by sentence: a game, laws, holds, years; what is kept and counted. */
public final class Promises46To53Test {
    private static final String THREE = "p50304;g71015;b90002";

    /** R of a DRAW, without sign. */
    private static BigInteger drawn;

    public static void main(String[] args) throws Exception {
        Check.all(Promises46To53Test.class);
    }

    private static void refused(StreamersHeld x, String call, int answer) {
        x.fits();
        int many = Integer.bitCount((1 << x.count(0)) - 1);
        Check.that(call, Check.call(x, call), answer);
        Check.row(call, x, many);
    }

    // ---- letting

    /** The value of each row, by the least one that none of those behind one act has. */
    private static int[] values() {
        int[] values = new int[61];
        for (int n = 1; n <= 60; n++) {
            boolean[] reached = new boolean[64];
            for (int taken = 1; taken <= 2; taken++) {
                for (int left = 0; left + taken <= n; left++) {
                    reached[values[left] ^ values[n - taken - left]] = true;
                }
            }
            while (reached[values[n]]) {
                values[n]++;
            }
        }
        return values;
    }

    static void p46Letting() {
        Check.promise(46, "who lets go of the last one has won: 1 if the first one wins by best play, "
            + "else 0; the ROW: how many he lets go of (1, 2), how many ends of the row are to the "
            + "left of these (the least such row; nothing without).");
        int[] values = values();
        for (int n = 60; n >= 0; n--) {
            int best = -1;
            for (int act = 2 * 61 - 1; act >= 0; act--) {
                int taken = 1 + act / 61;
                int right = n - taken - act % 61;
                best = right >= 0 && values[act % 61] == values[right] ? act : best;
            }
            StreamersHeld x = new StreamersHeld();
            x.wars(1);
            Check.that("letting(" + n + ")", x.letting(n), best < 0 ? 0 : 1);
            if (best < 0) {
                Check.row("letting(" + n + ")", x);
            } else {
                Check.row("letting(" + n + ")", x, 1 + best / 61, best % 61);
            }
        }
    }

    static void p46Few() {
        Check.promise(46, "one, or two that are beside each other in the row (others stay where they "
            + "are)");
        StreamersHeld x = new StreamersHeld();
        int[][] want = {{1, 1, 0}, {2, 2, 0}, {3, 1, 1}, {4, 2, 1}, {5, 1, 2}, {6, 1, 1}, {7, 1, 3}};
        for (int[] w : want) {
            Check.that("letting(" + w[0] + ")", x.letting(w[0]), 1);
            Check.row("letting(" + w[0] + ")", x, w[1], w[2]);
        }
        Check.that("none to let go of", x.letting(0), 0);
        Check.row("none to let go of", x);
    }

    static void p46Another() {
        Check.promise(46, "NONE: another n.");
        for (int n : new int[] {-1, 61, 62, Integer.MIN_VALUE, Integer.MAX_VALUE}) {
            refused(new StreamersHeld(), "letting " + n, -1);
        }
        Check.that("60 can be asked", new StreamersHeld().letting(60), 1);
    }

    // ---- law

    private static int law(StreamersHeld x, String text) {
        int answer = Check.put(x, text).law();
        Check.that("THE TEXT is empty behind " + text, x.count(12), 0);
        return answer;
    }

    static void p47Law() {
        Check.promise(47, "how many HOLD behind 20 HOURS by it, less by THE RULE (below 0, too); the "
            + "ROW: both, WAY then by it, by THE RULE.");
        String[] rules = {"", "k", "0", "99", "k/3", "99*(n=s)", "k-c*2", "3*c+(n>3)*2",
            "(v>2)*(k+4)", "s+(k>20)", "6*(k=60)", "k/9+(n=6)*s"};
        for (String by : rules) {
            for (String than : rules) {
                StreamersHeld x = Check.of(THREE + ";y20901", than);
                StreamersHeld byIt = Check.of(THREE + ";y20901", than);
                StreamersHeld byRule = Check.of(THREE + ";y20901", than);
                x.hours(2);
                byIt.hours(2);
                byRule.hours(2);
                Check.put(byIt, by).rule();
                byIt.hours(20);
                byRule.hours(20);
                int hold = Integer.bitCount(byIt.count(1));
                int holdNow = Integer.bitCount(byRule.count(1));
                Check.that(by + " than " + than, law(x, by), hold - holdNow);
                Check.row(by + " than " + than, x, hold, holdNow, byIt.count(2), byRule.count(2));
            }
        }
    }

    static void p47BehindTwenty() {
        Check.promise(47, "behind 20 HOURS");
        StreamersHeld x = Check.of("p40000;g10000", "0");
        x.sheet(2, 2, 3, -2);
        Check.that("in the 20th", law(x, "9*(k=60)"), -2);
        Check.row("in the 20th", x, 0, 2, 60, 60);
        Check.that("in the 21st", law(x, "9*(k=63)"), 0);
        Check.row("in the 21st", x, 2, 2, 60, 60);
        Check.put(x, "9").rule();
        Check.that("more by it", law(x, "0"), 2);
        Check.row("more by it", x, 2, 0, 60, 60);
        x = new StreamersHeld();
        Check.that("no STREAMERS", law(x, "k"), 0);
        Check.row("no STREAMERS", x, 0, 0, 60, 60);
    }

    static void p47Empty() {
        Check.promise(47, "THE TEXT is another RULE (an empty one: none)");
        StreamersHeld x = Check.of("p40009", "0");
        Check.that("LACK is above 4", law(x, ""), -1);
        Check.row("LACK is above 4", x, 0, 1, 60, 60);
        Check.that("THE RULE stays", x.streamer(0, 8), 100);
    }

    static void p47Signs() {
        Check.promise(47, "-10000 - p: the sign at p can't stand there (as rule()).");
        String[] wrong = {"?", "k+", "k?", "1234", "(((((", "1<2<3", "()", ")", "-".repeat(40),
            "-".repeat(40) + "k", "k+".repeat(20) + "k", "-".repeat(39) + "?k"};
        for (String text : wrong) {
            StreamersHeld x = Check.of(THREE, "s+1");
            StreamersHeld y = Check.of(THREE, "s+1");
            int p = -1 - Check.put(y, text).rule();
            Check.that("rule() of " + text, p >= 0, true);
            x.fits();
            String was = Check.state(x);
            Check.that("law() of " + text, law(x, text), -10000 - p);
            Check.row("law() of " + text, x, 3);
            Check.that("nothing else", Check.state(x), was);
        }
        StreamersHeld x = Check.of(THREE, "s+1");
        Check.that("at 0", law(x, "?"), -10000);
        Check.that("at 40", law(x, "-".repeat(41)), -10040);
        Check.that("40 signs", law(x, "-".repeat(39) + "0") >= 0, true);
    }

    // ---- wars

    private static int has(int his, int other, int v) {
        int lesser = his < other ? his : other;
        if (his > other) {
            return v - lesser - (his - other) / 3;
        }
        return his == other ? v / 2 - lesser : -lesser;
    }

    static void p48Wars() {
        Check.promise(48, "Pairs by which neither would have more by another number alone: how many; "
            + "the ROW: the least (nothing without).");
        StreamersHeld x = new StreamersHeld();
        for (int v = 20; v >= 0; v--) {
            int pairs = 0;
            int least = 0;
            for (int pair = 99; pair >= 0; pair--) {
                boolean rest = true;
                for (int z = 0; z <= 9; z++) {
                    rest &= has(z, pair % 10, v) <= has(pair / 10, pair % 10, v);
                    rest &= has(z, pair / 10, v) <= has(pair % 10, pair / 10, v);
                }
                pairs += rest ? 1 : 0;
                least = rest ? pair : least;
            }
            Check.that("wars(" + v + ")", x.wars(v), pairs);
            Check.that("numbers of the ROW", x.count(11), pairs == 0 ? 0 : 2);
            if (pairs > 0) {
                Check.row("wars(" + v + ")", x, least / 10, least % 10);
            }
        }
    }

    static void p48Few() {
        Check.promise(48, "both pay the lesser of both numbers, and who holds longer 1 more for each 3 "
            + "hours that he holds longer (cut); of like ones each has half of v (cut)");
        StreamersHeld x = new StreamersHeld();
        // for 0 who holds up to 2 hours longer pays no more: 0 and 0, 0 and 1, 0 and 2, and turned
        Check.that("wars(0)", x.wars(0), 5);
        Check.row("wars(0)", x, 0, 0);
        // half of 1 is 0: 0 and 0 does not rest, as 1 hour more has 1
        Check.that("wars(1)", x.wars(1), 4);
        Check.row("wars(1)", x, 0, 1);
    }

    static void p48Another() {
        Check.promise(48, "NONE: another v.");
        for (int v : new int[] {-1, 21, 22, Integer.MIN_VALUE, Integer.MAX_VALUE}) {
            refused(new StreamersHeld(), "wars " + v, -1);
        }
        Check.that("20 can be asked", new StreamersHeld().wars(20) >= 0, true);
    }

    // ---- years

    /** A DRAW of n, by numbers of any length. */
    private static int draw(int n) {
        drawn = drawn.multiply(BigInteger.valueOf(1103515245))
            .add(BigInteger.valueOf(12345)).mod(BigInteger.ONE.shiftLeft(32));
        return drawn.divide(BigInteger.valueOf(65536)).intValue() % n;
    }

    static void p49Years() {
        Check.promise(49, "n times (1 .. 60): a DRAW of 4 tells: 0, 1: An HOUR; 2: a DRAW of STREAMERS, "
            + "a DRAW of 10 tell who has what RATE then; 3: a DRAW of STREAMERS, a DRAW of 10 tell "
            + "who runs to what PLACE (2, 3: no DRAWS without STREAMERS): WAY then; the ROW: which "
            + "HOLD then (bits), REELS of all together then.");
        String[] lines = {"", "p59904", "p59904;g50109", "p39924;g41215;b90002;y20901;p90990",
            "p19990;g29980;b39970;y49960;p59950;g69940;b79930"};
        int[] seeds = {0, 1, -1, 2, 77, 65535, 65536, -65536, 1103515245, Integer.MIN_VALUE,
            Integer.MAX_VALUE, 0x40000000};
        for (String line : lines) {
            for (int seed : seeds) {
                StreamersHeld x = Check.of(line, "k/9");
                StreamersHeld y = Check.of(line, "k/9");
                String was = Check.state(x);
                drawn = BigInteger.valueOf(seed)
                    .mod(BigInteger.ONE.shiftLeft(32));
                for (int n = 1; n <= 60; n++) {
                    oneTime(y);
                    Check.that(line + ": years(" + seed + ", " + n + ")", x.years(seed, n),
                        y.count(2));
                    Check.that("which HOLD", x.row(0), y.count(1));
                    Check.that("REELS", x.row(1), y.count(6));
                    Check.that("two numbers", x.count(11), 2);
                }
                Check.that("nothing was done", Check.state(x), was);
            }
        }
    }

    private static void oneTime(StreamersHeld y) {
        int kind = draw(4);
        if (kind < 2) {
            y.hours(1);
        } else if (y.count(0) > 0) {
            int who = draw(y.count(0));
            int what = draw(10);
            Check.that("may be drawn", (kind == 2 ? y.rates(who, what) : y.runs(who, what)) != -1,
                true);
        }
    }

    static void p49Draw() {
        Check.promise(49, "A DRAW of n: R = R times 1103515245 + 12345 (as ints; R is seed at first), "
            + "(R without sign, by 65536) % n.");
        StreamersHeld x = new StreamersHeld();
        long[] seeds = {0, 1, 2, 3, 4, 5, -1, -2, -3, 1 << 20, 1 << 30, Integer.MAX_VALUE,
            Integer.MIN_VALUE, 1234567890, -1234567890};
        for (long seed : seeds) {
            long r = seed;
            int way = 0;
            for (int n = 1; n <= 20; n++) {
                r = (r * 1103515245L + 12345L) & 0xffffffffL;
                way += r / 65536 % 4 < 2 ? 3 : 0;
                Check.that("HOURS of years(" + seed + ", " + n + ")", x.years((int) seed, n), way);
            }
        }
    }

    static void p49Another() {
        Check.promise(49, "NONE: another n.");
        for (int n : new int[] {0, -1, 61, Integer.MIN_VALUE, Integer.MAX_VALUE}) {
            refused(Check.of(THREE, ""), "years 1 " + n, -1);
        }
        Check.that("60 can be asked", new StreamersHeld().years(1, 60) > 0, true);
    }

    // ---- kept

    static void p50Keep() {
        Check.promise(50, "What undo() brings back is kept under a number 0 .. 2: true.");
        String[] kept = new String[3];
        for (int i = 0; i < 3; i++) {
            StreamersHeld y = keptUpTo(i);
            kept[i] = Check.ship(y);
            String was = Check.state(y);
            Check.that("keep(" + i + ")", y.keep(i), true);
            Check.that("keep() changes nothing", Check.state(y), was);
        }
        StreamersHeld x = keptUpTo(2);
        x.keep(2);
        for (int i : new int[] {2, 0, 1, 0, 2}) {
            x.hours(5);
            Check.that("again(" + i + ")", x.again(i), true);
            Check.that("as it was kept", Check.ship(x), kept[i]);
        }
    }

    /** As it was, told apart by each number, ahead of the keep() of one; those below are kept. */
    private static StreamersHeld keptUpTo(int number) {
        StreamersHeld x = Check.of(THREE, "99*(s=5)*(n=1)");
        for (int i = 0; i <= number; i++) {
            if (i > 0) {
                x.keep(i - 1);
            }
            x.hours(i);
            x.runs(i, 9 - i);
            x.rates(i, 9 - i);
            x.speed(i);
            x.drops(1);
        }
        return x;
    }

    static void p50NotColourAndStrength() {
        Check.promise(50, "What undo() brings back is kept");
        StreamersHeld x = Check.of(THREE, "s");
        x.keep(0);
        x.sheet(2, 3, 1, 1);
        Check.put(x, "s+1").rule();
        x.seen(0, 0, 1);
        x.heard(0, 0);
        x.saw(0, 1, 0);
        Check.that("again(0)", x.again(0), true);
        Check.that("STRENGTH stays", x.streamer(2, 1), 3);
        Check.that("THE RULE stays", x.streamer(2, 8), 104);
        Check.that("what was seen and heard stays", x.count(7) + x.count(8) + x.count(9), 3);
    }

    static void p50Anew() {
        Check.promise(50, "is kept under a number 0 .. 2: true.");
        StreamersHeld x = Check.of(THREE, "");
        x.keep(1);
        x.speed(7);
        Check.that("the last one counts", x.keep(1), true);
        x.speed(8);
        Check.that("again(1)", x.again(1), true);
        Check.that("SPEED", x.count(3), 7);
        StreamersHeld none = new StreamersHeld();
        Check.that("without STREAMERS", none.keep(0), true);
        none.hours(1);
        Check.that("without STREAMERS", none.again(0), true);
        Check.that("WAY", none.count(2), 0);
    }

    static void p50Refused() {
        Check.promise(50, "Refused: others.");
        for (int i : new int[] {-1, 3, 4, 32, Integer.MIN_VALUE, Integer.MAX_VALUE}) {
            refused(Check.of(THREE, ""), "keep " + i, 0);
        }
    }

    static void p51Again() {
        Check.promise(51, "It is as it was kept under a number. Refused: nothing kept, STREAMERS came "
            + "since.");
        StreamersHeld x = Check.of(THREE, "");
        for (int i : new int[] {0, 1, 2, -1, 3, 4, 32, Integer.MIN_VALUE, Integer.MAX_VALUE}) {
            refused(x, "again " + i, 0);
        }
        x.speed(9);
        x.keep(1);
        x.speed(8);
        refused(x, "again 0", 0);
        refused(x, "again 2", 0);
        refused(x, "again 33", 0);
        refused(x, "again -31", 0);
        Check.that("nothing is forgotten by these", x.count(10), 2);
        Check.that("again(1)", x.again(1), true);
        Check.that("again(1) once more", x.again(1), true);
        Check.that("SPEED", x.count(3), 9);
    }

    static void p51StreamersCame() {
        Check.promise(51, "STREAMERS came since.");
        StreamersHeld x = Check.of(THREE, "");
        x.keep(0);
        x.keep(1);
        x.hours(1);
        Check.that("refused ones did not come", Check.put(x, "p").streamers(), -2);
        Check.that("none came", x.streamers(), 0);
        Check.that("again(0)", x.again(0), true);
        x.hours(1);
        Check.that("one came", Check.put(x, "y10000").streamers(), 1);
        refused(x, "again 0", 0);
        refused(x, "again 1", 0);
        Check.that("WAY", x.count(2), 3);
        x.keep(1);
        x.hours(1);
        refused(x, "again 0", 0);
        Check.that("kept since", x.again(1), true);
        Check.that("WAY", x.count(2), 3);
    }

    static void p52Count() {
        Check.promise(52, "What 0: STREAMERS, 1: which HOLD (bits), 2: WAY, 3: SPEED, 4: HOUR, 5: which "
            + "are BROKEN (bits), 6: REELS of all together, 7: what was seen (seen()), 8: what was "
            + "seen (saw()), 9: what was heard, 10: what can be undone, 11: numbers of the ROW, 12: "
            + "signs of THE TEXT.");
        StreamersHeld x = Check.of(THREE, "99*(s=7)*(n=1)");
        x.hours(2);
        x.drops(0);
        x.speed(5);
        x.seen(0, 0, 0);
        x.saw(0, 1, 0);
        x.saw(0, 1, 0);
        for (int i = 0; i < 3; i++) {
            x.heard(0, 0);
        }
        x.drag();
        x.sign(0);
        int[] want = {3, 4, 5, 5, 2, 2, 11, 1, 2, 3, 3, 2, 4};
        for (int what = 0; what <= 12; what++) {
            Check.that("count(" + what + ")", x.count(what), want[what]);
        }
        x = Check.of("p99900;p99900;p99900;p99900;p99900;p99900;p99900", "");
        Check.that("REELS of seven", x.count(6), 693);
        x.drops(0);
        Check.that("of DROPPED ones, too", x.count(6), 693);
    }

    static void p52Another() {
        Check.promise(52, "-100 for another what.");
        for (int what : new int[] {-1, 13, 14, 100, Integer.MIN_VALUE, Integer.MAX_VALUE}) {
            refused(Check.of(THREE, ""), "count " + what, -100);
        }
    }

    static void p53Row() {
        Check.promise(53, "Number i of the ROW. NoSuchElementException: none such.");
        StreamersHeld x = new StreamersHeld();
        for (int i : new int[] {-1, 0, 1, Integer.MIN_VALUE, Integer.MAX_VALUE}) {
            Check.that("row(" + i + ") of none", Check.rowThrows(x, i), true);
        }
        x = Check.of("p10000;g20000;b30000;y40000;p50000;g60000;b70000", "99*(n+s=7)+99*(n+s=0)");
        x.hours(0);
        Check.that("order()", x.order(), 7);
        Check.row("order()", x, 6, 5, 4, 3, 2, 1, 0);
        x.fits();
        Check.row("a shorter ROW", x, 7);
        for (int i : new int[] {-1, 1, 2, 6, 7, Integer.MIN_VALUE, Integer.MAX_VALUE}) {
            Check.that("row(" + i + ") of one", Check.rowThrows(x, i), true);
        }
        Check.that("row(0)", x.row(0), 7);
        x.letting(0);
        Check.that("an empty ROW", Check.rowThrows(x, 0), true);
    }
}
