import java.math.BigInteger;
import java.util.Arrays;

/** Promises 33 to 45, sentence by sentence: sights, rumours, chances, laws of parting. */
public final class Promises33To45Test {
    private static final String THREE = "p50304;g71015;b90002";
    private static final int[] NO_BIT = {-1, 2, 3, Integer.MIN_VALUE, Integer.MAX_VALUE};

    public static void main(String[] args) throws Exception {
        Check.all(Promises33To45Test.class);
    }

    private static void refused(StreamersHeld x, String call, int answer) {
        x.letting(9);
        Check.that(call, Check.call(x, call), answer);
        Check.row(call, x, 1, 4);
    }

    // ---- how far off she is

    static void p33Seen() {
        Check.promise(33, "It was seen of one that its LACK is v (-99 .. 99) or more now (is 1), or "
            + "less (0): how many such.");
        for (int v = -99; v <= 99; v++) {
            StreamersHeld x = Check.of(THREE, "");
            Check.that("or more", x.seen(0, v, 1), 1);
            int from = v + 4 < 0 ? 0 : v + 4;
            guess("LACK " + v + " or more", x, from, 59);
            x.forget();
            Check.that("less", x.seen(0, v, 0), 1);
            guess("LACK less than " + v, x, 0, v + 3 > 59 ? 59 : v + 3);
            Check.that("and another", x.seen(2, v, 1), 2);
        }
    }

    private static void guess(String what, StreamersHeld x, int least, int greatest) {
        int fits = x.count(2) >= least && x.count(2) <= greatest ? 1 : 0;
        if (least > greatest || least > 59) {
            Check.that(what, x.guess(), 0);
            Check.that(what + ", the ROW", x.count(11), 1);
        } else {
            Check.that(what, x.guess(), greatest - least + 1);
            Check.row(what, x, fits, least, greatest);
        }
    }

    static void p33Refused() {
        Check.promise(33, "Refused: others, 10.");
        StreamersHeld x = Check.of(THREE, "");
        for (int v : new int[] {-100, 100, Integer.MIN_VALUE, Integer.MAX_VALUE}) {
            refused(x, "seen 0 " + v + " 0", -1);
        }
        for (int is : NO_BIT) {
            refused(x, "seen 0 0 " + is, -1);
        }
        for (int i : new int[] {-1, 3, 7, 32, Integer.MIN_VALUE, Integer.MAX_VALUE}) {
            refused(x, "seen " + i + " 0 0", -1);
        }
        Check.that("none of these", x.count(7), 0);
        for (int n = 1; n <= 10; n++) {
            Check.that("the like counts, too", x.seen(0, 0, 1), n);
        }
        refused(x, "seen 0 0 1", -1);
        refused(x, "seen 1 9 0", -1);
        Check.that("ten", x.count(7), 10);
    }

    static void p34Forget() {
        Check.promise(34, "It is forgotten: how many there were.");
        StreamersHeld x = Check.of(THREE, "");
        Check.that("none", x.forget(), 0);
        for (int many = 0; many <= 10; many++) {
            for (int i = 0; i < many; i++) {
                x.seen(0, 99, 1);
            }
            Check.that("forget()", x.forget(), many);
            Check.that("none is left", x.count(7), 0);
        }
        Check.that("none is held against her", x.guess(), 60);
        x.saw(1, 1, 1);
        x.heard(0, 0);
        x.forget();
        Check.that("that alone", x.count(8) + x.count(9), 2);
    }

    static void p35Guess() {
        Check.promise(35, "WAYS (0 .. 59) that fit all that was seen: how many");
        StreamersHeld x = new StreamersHeld();
        Check.that("no STREAMERS", x.guess(), 60);
        Check.row("no STREAMERS", x, 1, 0, 59);
        x = Check.of(THREE, "");
        Check.that("nothing seen", x.guess(), 60);
        x.seen(0, 55, 1);
        guess("59 alone", x, 59, 59);
        x.seen(0, 55, 0);
        guess("none", x, 1, 0);
        x.forget();
        x.seen(0, -3, 0);
        guess("0 alone", x, 0, 0);
        x.forget();
        x.seen(0, 56, 1);
        guess("60 is none", x, 60, 59);
        x.forget();
        x.seen(0, -4, 0);
        guess("-1 is none", x, 0, -1);
        x.forget();
        x.seen(0, 6, 1);
        x.seen(1, 25, 0);
        x.seen(2, 11, 1);
        x.seen(2, 20, 0);
        guess("all of these", x, 13, 21);
    }

    static void p35WayAsItIs() {
        Check.promise(35, "the ROW: 1 if WAY as it is (above 59, too) does, else 0, then the least, "
            + "the greatest one (neither without).");
        StreamersHeld x = Check.of("p10000", "0");
        x.hours(20);
        Check.that("WAY", x.count(2), 60);
        x.seen(0, 60, 1);
        Check.that("none to 59", x.guess(), 0);
        Check.row("60 does", x, 1);
        x.seen(0, 61, 1);
        Check.that("none to 59", x.guess(), 0);
        Check.row("60 does not", x, 0);
        x.forget();
        x.seen(0, 59, 1);
        Check.that("59 to 59", x.guess(), 1);
        Check.row("60 does, too", x, 1, 59, 59);
        x.seen(0, 60, 0);
        Check.that("59 to 59", x.guess(), 1);
        Check.row("60 does not", x, 0, 59, 59);
        x.forget();
        x.seen(0, 30, 0);
        x.undo();
        Check.that("0 to 29", x.guess(), 30);
        Check.row("0 does", x, 1, 0, 29);
    }

    static void aboutAllElse() {
        Check.about("(WAY 0 .. 59, not told; all else as it is)");
        StreamersHeld x = Check.of(THREE, "0");
        x.seen(0, 2, 1);
        Check.that("PLACE 4", x.guess(), 54);
        x.runs(0, 9);
        Check.that("PLACE 9", x.guess(), 49);
        x.rates(0, 3);
        x.hours(1);
        Check.that("LENGTH 3", x.guess(), 46);
        x.drops(0);
        x.speed(9);
        x.hours(9);
        Check.that("WAY is not told", x.guess(), 46);
    }

    /** By all that can be looked at: the first that leaves the fewest at most. */
    private static void looks(String what, StreamersHeld x, int[] reach, int least, int greatest) {
        int fewest = 99;
        int best = 0;
        for (int told = 0; told < 200 * reach.length; told++) {
            int from = told % 200 - 99 + reach[told / 200];
            int so = 0;
            for (int way = least; way <= greatest; way++) {
                so += way >= from ? 1 : 0;
            }
            int most = Math.max(so, greatest - least + 1 - so);
            if (told % 200 <= 198 && most < fewest) {
                fewest = most;
                best = told;
            }
        }
        Check.that(what + ", looks()", x.looks(), best);
        Check.row(what + ", looks()", x, fewest);
    }

    static void p36Looks() {
        Check.promise(36, "Whom and what to look at next, so that, it is so or not, the fewest of "
            + "these are left at most: 200 times the STREAMER and 99 and v (as seen()), of equal "
            + "ones the least; the ROW: how many at most.");
        int[] reach = {4, 5, 2};
        for (int least = 0; least <= 59; least += 3) {
            for (int greatest = least; greatest <= 59; greatest += 1 + greatest / 9) {
                StreamersHeld x = Check.of(THREE, "");
                x.seen(2, least - 2, 1);
                x.seen(2, greatest - 1, 0);
                looks(least + " to " + greatest, x, reach, least, greatest);
            }
        }
    }

    static void p36FarReach() {
        Check.promise(36, "99 and v (as seen())");
        StreamersHeld x = Check.of("p39999;g30000;b30009", "0");
        x.drops(1);
        x.drops(2);
        x.hours(11);
        x.reels(0, 99);
        x.hours(1);
        looks("LENGTH 108", x, new int[] {117, 0, 9}, 0, 59);
        x.runs(0, 2);
        looks("v -80", x, new int[] {110, 0, 9}, 0, 59);
        x.hours(5);
        looks("v is -99 at least", x, new int[] {155, 0, 9}, 0, 59);
        Check.that("the second one tells more", x.looks(), 200 + 99 + 30);
        x.seen(1, 57, 1);
        looks("57 to 59", x, new int[] {155, 0, 9}, 57, 59);
        x.forget();
        x.hours(5);
        x.seen(1, 57, 1);
        looks("57 to 59", x, new int[] {200, 0, 9}, 57, 59);
    }

    static void p36None() {
        Check.promise(36, "-2: none is left, or there are no STREAMERS.");
        refused(new StreamersHeld(), "looks", -2);
        StreamersHeld x = Check.of(THREE, "");
        x.seen(0, 56, 1);
        refused(x, "looks", -2);
        x.forget();
        x.seen(0, 55, 1);
        Check.that("one is left", x.looks(), 0);
        Check.row("one is left", x, 1);
        x = Check.of("p30000", "");
        Check.that("one STREAMER", x.looks(), 99 + 30);
        Check.row("one STREAMER", x, 30);
    }

    // ---- which one it was

    /** One that HOLDS and is TAUT, one that HOLDS, one BROKEN, one DROPPED. */
    private static StreamersHeld four() {
        StreamersHeld x = Check.of("p50000;g70009;b90002;y10005", "99*(s=9)");
        x.drops(3);
        x.hours(1);
        return x;
    }

    static void p37Heard() {
        Check.promise(37, "what 0: COLOUR is v (0 .. 3); 1: STRENGTH is v (1 .. 9) or more; 2: it HOLDS "
            + "(1) or not (0); 3: PLACE is v (0 .. 9) or more; 4: it is TAUT (1) or not (0): how "
            + "many such.");
        int[][] fits = {{1, 2, 4, 8}, {-1, 15, 7, 7, 7, 7, 6, 6, 4, 4}, {12, 3},
            {15, 14, 14, 10, 10, 10, 2, 2, 2, 2}, {14, 1}};
        for (int what = -2; what <= 6; what++) {
            for (int v = -2; v <= 11; v++) {
                StreamersHeld x = four();
                boolean can = what >= 0 && what <= 4 && v >= (what == 1 ? 1 : 0)
                    && v < fits[what].length;
                Check.that("heard(" + what + ", " + v + ")", x.heard(what, v), can ? 1 : -1);
                Check.that("fits()", x.fits(), can ? fits[what][v] : 15);
                Check.row("fits()", x, Integer.bitCount(can ? fits[what][v] : 15));
            }
        }
    }

    static void p37Refused() {
        Check.promise(37, "Refused: others, 12.");
        StreamersHeld x = four();
        for (int what = 0; what <= 4; what++) {
            refused(x, "heard " + what + " " + Integer.MIN_VALUE, -1);
            refused(x, "heard " + what + " " + Integer.MAX_VALUE, -1);
            refused(x, "heard " + (what < 3 ? -1 - what : 2 + what) + " 1", -1);
        }
        for (int n = 1; n <= 12; n++) {
            Check.that("the like counts, too", x.heard(3, 0), n);
        }
        refused(x, "heard 3 0", -1);
        refused(x, "heard 0 0", -1);
        Check.that("twelve", x.count(9), 12);
    }

    static void p38Denies() {
        Check.promise(38, "It is denied: how many there were.");
        StreamersHeld x = four();
        Check.that("none", x.denies(), 0);
        for (int many = 0; many <= 12; many++) {
            for (int i = 0; i < many; i++) {
                x.heard(0, 3);
            }
            Check.that("denies()", x.denies(), many);
            Check.that("none is left", x.count(9), 0);
        }
        Check.that("all fit", x.fits(), 15);
        x.saw(1, 1, 1);
        x.seen(0, 0, 0);
        x.denies();
        Check.that("that alone", x.count(7) + x.count(8), 2);
    }

    static void p39Fits() {
        Check.promise(39, "STREAMERS (bits) that fit all that was heard; the ROW: how many.");
        StreamersHeld x = four();
        x.heard(1, 5);
        x.heard(3, 2);
        Check.that("both", x.fits(), 6);
        Check.row("both", x, 2);
        x.heard(2, 1);
        Check.that("all three", x.fits(), 2);
        x.heard(0, 2);
        Check.that("none", x.fits(), 0);
        Check.row("none", x, 0);
        x = new StreamersHeld();
        Check.that("no STREAMERS", x.fits(), 0);
        Check.row("no STREAMERS", x, 0);
        x = Check.of("p10000;p10000;p10000;p10000;p10000;p10000;p10000", "");
        x.heard(0, 0);
        Check.that("seven", x.fits(), 127);
        Check.row("seven", x, 7);
        x.heard(2, 0);
        x.drops(6);
        Check.that("as it is when it is asked", x.fits(), 64);
    }

    private static boolean isSo(StreamersHeld x, int i, int what, int v) {
        boolean holds = x.streamer(i, 6) == 0;
        switch (what) {
            case 0: return x.streamer(i, 0) == v;
            case 1: return x.streamer(i, 1) >= v;
            case 2: return holds == (v == 1);
            case 3: return x.streamer(i, 4) >= v;
            default: return (holds && x.streamer(i, 7) >= 20000) == (v == 1);
        }
    }

    static void p40Asks() {
        Check.promise(40, "What to ask next, so that, it is so or not, the fewest such STREAMERS are "
            + "left at most: 10 times what and v, as they may be heard, of equal ones the least; the "
            + "ROW: how many at most.");
        String[] lines = {"p50000;g70009;b90002;y10005", "p50000", "p50000;p50000;p60000",
            "p50000;p50000;p50005;p50006", "p10000;p20000;p30000;p40000;p50000;p60000;p70000",
            "p50000;p50009;p50000;p50000", "p10019;p10019;p10019", "p59059;p50009;p50059"};
        int[][] heard = {{}, {1, 5}, {2, 1}, {3, 5}, {4, 0}, {0, 0}};
        for (String line : lines) {
            for (int[] one : heard) {
                for (int drops = 0; drops <= 3; drops++) {
                    StreamersHeld x = Check.of(line, "");
                    x.drops(drops);
                    x.hours(1);
                    if (one.length > 0) {
                        x.heard(one[0], one[1]);
                    }
                    asks(line + ", drops " + drops, x);
                }
            }
        }
    }

    private static void asks(String what, StreamersHeld x) {
        int fitting = x.fits();
        int left = Integer.bitCount(fitting);
        if (left == 0) {
            refused(x, "asks", -2);
            return;
        }
        int[] from = {0, 1, 0, 0, 0};
        int[] to = {3, 9, 1, 9, 1};
        int best = -1;
        int fewest = 99;
        for (int kind = 4; kind >= 0; kind--) {
            for (int v = to[kind]; v >= from[kind]; v--) {
                int so = 0;
                for (int i = 0; fitting >> i != 0; i++) {
                    so += (fitting >> i & 1) == 1 && isSo(x, i, kind, v) ? 1 : 0;
                }
                if (Math.max(so, left - so) <= fewest) {
                    fewest = Math.max(so, left - so);
                    best = 10 * kind + v;
                }
            }
        }
        Check.that(what + ", asks()", x.asks(), best);
        Check.row(what + ", asks()", x, fewest);
    }

    static void p40None() {
        Check.promise(40, "-2: none fits.");
        refused(new StreamersHeld(), "asks", -2);
        StreamersHeld x = four();
        x.heard(1, 9);
        Check.that("one fits", x.asks(), 0);
        Check.row("one fits", x, 1);
        x.heard(2, 1);
        refused(x, "asks", -2);
    }

    // ---- chances

    static void p41Odds() {
        Check.promise(41, "Each that HOLDS breaks by p tenths (0 .. 10), each by itself: how likely "
            + "those that still HOLD count k (0 .. 63) or more (by STRENGTH): 0; the ROW: the "
            + "fraction.");
        String[] lines = {"", "p50000", "p50000;g30000;b90000", "p10000;p20000;p30000;p40000",
            "p90000;p90000;p90000;p90000;p90000;p90000;p90000",
            "p10000;p30000;p30000;p30000;p70000;p80000;p20000"};
        for (String line : lines) {
            for (int p = 0; p <= 10; p++) {
                StreamersHeld x = Check.of(line, "");
                x.drops(2);
                BigInteger[] ways = ways(x, p);
                BigInteger all = BigInteger.TEN.pow(Integer.bitCount(x.count(1)));
                for (int k = 0; k <= 63; k++) {
                    BigInteger so = BigInteger.ZERO;
                    for (int c = k; c <= 63; c++) {
                        so = so.add(ways[c]);
                    }
                    BigInteger by = so.gcd(all);
                    Check.that(line + ": odds(" + p + ", " + k + ")", x.odds(p, k), 0);
                    Check.that("upper", x.row(0), so.divide(by).longValue());
                    Check.that("lower", x.row(1), all.divide(by).longValue());
                    Check.that("two numbers", x.count(11), 2);
                }
            }
        }
    }

    /** In how many of 10 ^ n ways, n that HOLD, those that still do count 0, 1, .. 63. */
    private static BigInteger[] ways(StreamersHeld x, int p) {
        BigInteger[] ways = new BigInteger[64];
        Arrays.fill(ways, BigInteger.ZERO);
        ways[0] = BigInteger.ONE;
        for (int i = 0; i < x.count(0); i++) {
            int strength = x.streamer(i, 1);
            boolean holds = x.streamer(i, 6) == 0;
            for (int c = 63; holds && c >= 0; c--) {
                BigInteger without = c < strength ? BigInteger.ZERO : ways[c - strength];
                ways[c] = ways[c].multiply(BigInteger.valueOf(p))
                    .add(without.multiply(BigInteger.valueOf(10 - p)));
            }
        }
        return ways;
    }

    static void p41Edges() {
        Check.promise(41, "NONE: others.");
        StreamersHeld x = Check.of("p90000;p90000;p90000;p90000;p90000;p90000;p90000", "");
        for (int p : new int[] {-1, 11, Integer.MIN_VALUE, Integer.MAX_VALUE}) {
            refused(x, "odds " + p + " 0", -1);
        }
        for (int k : new int[] {-1, 64, Integer.MIN_VALUE, Integer.MAX_VALUE}) {
            refused(x, "odds 0 " + k, -1);
        }
        Check.that("none breaks", x.odds(0, 63), 0);
        Check.row("none breaks", x, 1, 1);
        Check.that("all break", x.odds(10, 1), 0);
        Check.row("all break", x, 0, 1);
        Check.that("0 or more", x.odds(10, 0), 0);
        Check.row("0 or more", x, 1, 1);
        Check.that("all hold by 1 tenth each", x.odds(9, 63), 0);
        Check.row("all hold by 1 tenth each", x, 1, 10000000);
    }

    // ---- laws of parting

    private static boolean breaks(int law, int k, int s) {
        return (1 + law / 10) * k > s + law % 10;
    }

    /** laws() and tries() by those laws that fit. */
    private static void laws(String what, StreamersHeld x, boolean[] fits) {
        int many = 0;
        int least = 0;
        for (int law = 39; law >= 0; law--) {
            many += fits[law] ? 1 : 0;
            least = fits[law] ? law : least;
        }
        Check.that(what + ", laws()", x.laws(), many);
        if (many == 0) {
            Check.row(what + ", laws()", x);
            refused(x, "tries", -2);
            return;
        }
        Check.row(what + ", laws()", x, 1 + least / 10, least % 10);
        int best = 0;
        int fewest = 99;
        for (int told = 209; told > 0; told--) {
            int so = 0;
            for (int law = 0; law < 40; law++) {
                so += fits[law] && breaks(law, told / 10, told % 10) ? 1 : 0;
            }
            if (told % 10 > 0 && Math.max(so, many - so) <= fewest) {
                fewest = Math.max(so, many - so);
                best = told;
            }
        }
        Check.that(what + ", tries()", x.tries(), best);
        Check.row(what + ", tries()", x, fewest);
    }

    static void p42Saw() {
        Check.promise(42, "It was seen that by LACK k (0 .. 20) and STRENGTH s (1 .. 9) one broke (is "
            + "1) or not (0): how many such.");
        for (int k = 0; k <= 20; k++) {
            for (int s = 1; s <= 9; s++) {
                for (int is = 0; is <= 1; is++) {
                    StreamersHeld x = new StreamersHeld();
                    Check.that("saw()", x.saw(k, s, is), 1);
                    boolean[] fits = new boolean[40];
                    for (int law = 0; law < 40; law++) {
                        fits[law] = breaks(law, k, s) == (is == 1);
                    }
                    laws("saw(" + k + ", " + s + ", " + is + ")", x, fits);
                }
            }
        }
    }

    static void p42Refused() {
        Check.promise(42, "Refused: others, 10.");
        StreamersHeld x = new StreamersHeld();
        for (int k : new int[] {-1, 21, Integer.MIN_VALUE, Integer.MAX_VALUE}) {
            refused(x, "saw " + k + " 1 0", -1);
        }
        for (int s : new int[] {0, -1, 10, Integer.MIN_VALUE, Integer.MAX_VALUE}) {
            refused(x, "saw 0 " + s + " 0", -1);
        }
        for (int is : NO_BIT) {
            refused(x, "saw 0 1 " + is, -1);
        }
        Check.that("none of these", x.count(8), 0);
        for (int n = 1; n <= 10; n++) {
            Check.that("the like counts, too", x.saw(5, 5, 1), n);
        }
        refused(x, "saw 5 5 1", -1);
        refused(x, "saw 0 1 0", -1);
        Check.that("ten", x.count(8), 10);
    }

    static void p43Clears() {
        Check.promise(43, "That is forgotten: how many there were.");
        StreamersHeld x = Check.of("p10000", "");
        Check.that("none", x.clears(), 0);
        for (int many = 0; many <= 10; many++) {
            for (int i = 0; i < many; i++) {
                x.saw(0, 1, 1);
            }
            Check.that("clears()", x.clears(), many);
            Check.that("none is left", x.count(8), 0);
        }
        Check.that("all fit", x.laws(), 40);
        x.seen(0, 0, 0);
        x.heard(0, 0);
        x.clears();
        Check.that("that alone", x.count(7) + x.count(9), 2);
    }

    static void p44Laws() {
        Check.promise(44, "Laws (40 of them) that fit all that was seen so: how many; the ROW: the "
            + "least a, b (nothing without).");
        StreamersHeld x = new StreamersHeld();
        boolean[] all = new boolean[40];
        Arrays.fill(all, true);
        laws("nothing seen", x, all);
        x.saw(5, 6, 1);
        x.saw(3, 8, 0);
        boolean[] fits = new boolean[40];
        for (int law = 0; law < 40; law++) {
            fits[law] = breaks(law, 5, 6) && !breaks(law, 3, 8);
        }
        laws("both", x, fits);
        x.saw(5, 6, 0);
        laws("none", x, new boolean[40]);
        x.clears();
        x.saw(10, 1, 1);
        x.saw(10, 3, 0);
        Check.that("a 1 and b 7, 8", x.laws(), 2);
        Check.row("a 1 and b 7, 8", x, 1, 7);
        x.clears();
        x.saw(4, 6, 1);
        x.saw(4, 7, 0);
        Check.that("4 times 4 is above 6 and 9, not 7 and 9; and so on", x.laws(), 3);
        Check.row("4 times 4 is above 6 and 9, not 7 and 9; and so on", x, 2, 1);
    }

    static void aboutLaws() {
        Check.about("(a 1 .. 4, b 0 .. 9: it breaks, if a times LACK is above STRENGTH and b)");
        StreamersHeld x = new StreamersHeld();
        x.saw(5, 1, 1);
        x.saw(1, 1, 0);
        x.saw(5, 5, 0);
        Check.that("a 1, b 0 .. 3: 5 is above 1 and 3; a 2, b 5 .. 8", x.laws(), 8);
        Check.row("the least", x, 1, 0);
        x.clears();
        x.saw(4, 6, 1);
        x.saw(3, 3, 0);
        x.saw(3, 2, 1);
        Check.that("a 4: 12 is above 2 and 9, not 3 and 9", x.laws() > 0, true);
        x.saw(3, 9, 0);
        x.saw(2, 1, 0);
        x.saw(5, 9, 1);
        Check.that("a 4, b 9 alone", x.laws(), 1);
        Check.row("a 4, b 9 alone", x, 4, 9);
    }

    static void p45Tries() {
        Check.promise(45, "What to try next, so that, it breaks or not, the fewest laws are left at "
            + "most: 10 times LACK and STRENGTH, of equal ones the least; the ROW: how many at "
            + "most.");
        for (int law = 0; law < 40; law++) {
            StreamersHeld x = new StreamersHeld();
            boolean[] fits = new boolean[40];
            Arrays.fill(fits, true);
            for (int seen = 0; seen < 6; seen++) {
                int told = x.tries();
                boolean is = breaks(law, told / 10, told % 10);
                x.saw(told / 10, told % 10, is ? 1 : 0);
                for (int other = 0; other < 40; other++) {
                    fits[other] &= breaks(other, told / 10, told % 10) == is;
                }
                laws("law " + law, x, fits);
            }
        }
    }

    static void p45None() {
        Check.promise(45, "-2: none fits.");
        StreamersHeld x = new StreamersHeld();
        x.saw(9, 6, 0);
        x.saw(9, 5, 1);
        Check.that("one law", x.tries(), 1);
        Check.row("one law", x, 1);
        x.saw(0, 1, 1);
        refused(x, "tries", -2);
    }
}
