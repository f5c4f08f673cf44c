/** Promises 46 to 49: letting go, another rule, holds at rest, years. */
public final class GamesTest {
    public static void main(String[] args) {
        promise46();
        promise47();
        promise47Signs();
        promise48();
        promise49();
        Check.close("GamesTest");
    }

    private static void promise46() {
        StreamersHeld x = new StreamersHeld();
        int[][] want = {{1, 1, 0}, {2, 2, 0}, {3, 1, 1}, {4, 2, 1}, {5, 1, 2}, {6, 1, 1}, {7, 1, 3},
            {9, 1, 4}, {10, 1, 1}, {6, 1, 1}, {1, 1, 0}};
        for (int[] w : want) {
            Check.that("letting(" + w[0] + ")", x.letting(w[0]), 1);
            Check.row("letting(" + w[0] + ")", x, w[1], w[2]);
        }
        Check.that("letting(-1)", x.letting(-1), -1);
        Check.that("letting(61)", x.letting(61), -1);
        Check.row("the ROW stays", x, 1, 0);
        Check.that("letting(0)", x.letting(0), 0);
        Check.row("letting(0)", x);
        Check.that("letting(60)", x.letting(60), 1);
        Check.that("60 are told", x.count(11), 2);
        // what is left must be two rows of the same value, by the known values of this game
        int[] known = {0, 1, 2, 3, 1, 4, 3, 2, 1, 4, 2, 6, 4, 1, 2, 7, 1, 4, 3, 2, 1, 4, 6, 7, 4, 1,
            2, 8, 5, 4, 7, 2, 1, 8, 6, 7, 4, 1, 2, 3, 1, 4, 7, 2, 1, 8, 2, 7, 4, 1, 2, 8, 1, 4, 7,
            2, 1, 4, 2, 7};
        for (int n = 1; n <= 60; n++) {
            Check.that("the first one wins", x.letting(n), 1);
            int left = (int) x.row(1);
            int right = n - (int) x.row(0) - left;
            Check.that("letting(" + n + ") leaves alike", known[left], known[right]);
        }
    }

    private static int law(StreamersHeld x, String text) {
        int answer = Check.put(x, text).law();
        Check.that("law() empties " + text, x.count(12), 0);
        return answer;
    }

    private static void promise47() {
        String three = "p10009;g30108;y50209";
        StreamersHeld x = Check.of(three, "99*(n=s)");
        Check.that("by 0", law(x, "0"), 3);
        Check.row("by 0", x, 3, 0, 43, 57);
        Check.that("by LACK", law(x, ""), 0);
        Check.row("by LACK", x, 0, 0, 57, 57);
        x = Check.of(three, "0");
        Check.that("by STRENGTH", law(x, "99*(n=s)"), -3);
        Check.row("by STRENGTH", x, 0, 3, 57, 43);
        Check.that("as it is", law(x, "0"), 0);
        Check.row("as it is", x, 3, 3, 43, 43);
        Check.that("THE RULE stays", x.later(20), 43);
        x = Check.of("p40000", "0");
        Check.that("in the twentieth", law(x, "9*(k=60)"), -1);
        Check.that("in the next", law(x, "9*(k=63)"), 0);
        x.hours(1);
        Check.that("from now on", law(x, "9*(k=63)"), -1);
    }

    private static void promise47Signs() {
        StreamersHeld x = Check.of("p40000", "s+1");
        x.fits();
        String[] wrong = {"x", "k+", "k<s<r", "(((((k", "1234", "(k"};
        int[] at = {0, 2, 3, 4, 3, 2};
        for (int i = 0; i < wrong.length; i++) {
            Check.that("law() of " + wrong[i], law(x, wrong[i]), -10000 - at[i]);
        }
        Check.that("41 signs", law(x, "-" + "k+".repeat(20)), -10040);
        Check.row("the ROW stays", x, 1);
        Check.that("THE RULE stays", x.streamer(0, 8), 105);
        Check.that("39 signs", law(x, "k+".repeat(19) + "k"), 0);
    }

    private static void promise48() {
        StreamersHeld x = new StreamersHeld();
        Check.that("for 0", x.wars(0), 5);
        Check.row("for 0", x, 0, 0);
        Check.that("for 1", x.wars(1), 4);
        Check.row("for 1", x, 0, 1);
        Check.that("wars(-1)", x.wars(-1), -1);
        Check.that("wars(21)", x.wars(21), -1);
        Check.row("the ROW stays", x, 0, 1);
        for (int v = 0; v <= 20; v++) {
            int pairs = 0;
            int least = -1;
            for (int pair = 0; pair < 100; pair++) {
                if (rests(pair / 10, pair % 10, v)) {
                    pairs++;
                    least = least < 0 ? pair : least;
                }
            }
            Check.that("for " + v, x.wars(v), pairs);
            if (pairs == 0) {
                Check.row("for " + v, x);
            } else {
                Check.row("for " + v, x, least / 10, least % 10);
            }
        }
    }

    private static boolean rests(int x, int y, int v) {
        for (int z = 0; z < 10; z++) {
            if (has(z, y, v) > has(x, y, v) || has(z, x, v) > has(y, x, v)) {
                return false;
            }
        }
        return true;
    }

    private static int has(int his, int other, int v) {
        int pays = Math.min(his, other);
        if (his > other) {
            return v - pays - (his - other) / 3;
        }
        return his == other ? v / 2 - pays : -pays;
    }

    private static void promise49() {
        StreamersHeld x = new StreamersHeld();
        // from 1 it draws of 4: 2, 2, 1, 3, 3, 3, 2, 3, 0, 2
        int[] ways = {0, 0, 3, 3, 3, 3, 3, 3, 6, 6};
        for (int n = 1; n <= 10; n++) {
            Check.that("years(1, " + n + ")", x.years(1, n), ways[n - 1]);
            Check.row("years(1, " + n + ")", x, 0, 0);
        }
        Check.that("years(1, 0)", x.years(1, 0), -1);
        Check.that("years(1, 61)", x.years(1, 61), -1);
        Check.that("years(1, -1)", x.years(1, -1), -1);
        Check.row("the ROW stays", x, 0, 0);
        withStreamers();
    }

    private static void withStreamers() {
        StreamersHeld one = Check.of("p59904", "0");
        // from 1, of the only one: RATE 3, PLACE 5, RATE 0, RATE 7, then An HOUR
        Check.that("years() of one, 4", one.years(1, 4), 0);
        Check.row("years() of one, 4", one, 1, 99);
        Check.that("years() of one, 5", one.years(1, 5), 3);
        Check.row("years() of one, 5", one, 1, 92);
        String lines = "p50304;g79915;b99902";
        for (int seed : new int[] {0, 1, -1, 77, Integer.MIN_VALUE, Integer.MAX_VALUE}) {
            StreamersHeld y = Check.of(lines, "k/9");
            long r = seed;
            for (int i = 0; i < 60; i++) {
                r = next(r);
                int kind = (int) (r / 65536 % 4);
                if (kind < 2) {
                    y.hours(1);
                } else {
                    r = next(r);
                    int who = (int) (r / 65536 % 3);
                    r = next(r);
                    int v = (int) (r / 65536 % 10);
                    int done = kind == 2 ? y.rates(who, v) : y.runs(who, v);
                    Check.that("years() may draw it", done == -1, false);
                }
                StreamersHeld x = Check.of(lines, "k/9");
                Check.that("years(" + seed + ")", x.years(seed, i + 1), y.count(2));
                Check.row("years(" + seed + ")", x, y.count(1), y.count(6));
                Check.that("nothing was done", x.count(2) + x.count(4) + x.count(10), 0);
            }
        }
    }

    private static long next(long r) {
        return (r * 1103515245L + 12345L) & 0xffffffffL;
    }
}
