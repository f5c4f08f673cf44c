/** Promises 27 to 32 and 41: votes, ends that were found, chances. */
public final class VotesTest {
    private static final String SEVEN = "p30000;p30000;p30000;p30000;p30000;p30000;p30000";

    public static void main(String[] args) {
        promise27();
        promise28();
        promise29();
        promise30();
        promise31();
        promise32();
        promise41();
        Check.close("VotesTest");
    }

    private static void power(StreamersHeld x, int streamer, int upper, int lower) {
        Check.that("power(" + streamer + ")", x.power(streamer), 0);
        Check.row("power(" + streamer + ")", x, upper, lower);
    }

    private static void promise27() {
        StreamersHeld x = Check.of("p50000;g30000;b20000;y90000", "");
        x.drops(3);
        power(x, 0, 3, 4);
        power(x, 1, 1, 4);
        power(x, 2, 1, 4);
        Check.that("a DROPPED one", x.power(3), -2);
        Check.that("none such", x.power(4), -1);
        Check.that("none such", x.power(-1), -1);
        Check.row("the ROW stays", x, 1, 4);
        x.drops(3);
        power(x, 3, 3, 4);
        power(x, 0, 1, 4);
        x.drops(0);
        x.drops(1);
        power(x, 3, 1, 1);
        power(x, 2, 0, 1);
        x.drops(2);
        power(x, 3, 1, 1);
        power(Check.of(SEVEN, ""), 6, 5, 16);
        x = Check.of("p90000", "99");
        x.hours(1);
        Check.that("a BROKEN one", x.power(0), -2);
    }

    private static void pivots(StreamersHeld x, int streamer, int upper, int lower) {
        Check.that("pivots(" + streamer + ")", x.pivots(streamer), 0);
        Check.row("pivots(" + streamer + ")", x, upper, lower);
    }

    private static void promise28() {
        StreamersHeld x = Check.of("p50000;g30000;b20000;y90000", "");
        x.drops(3);
        pivots(x, 0, 2, 3);
        pivots(x, 1, 1, 6);
        pivots(x, 2, 1, 6);
        Check.that("a DROPPED one", x.pivots(3), -2);
        Check.that("none such", x.pivots(4), -1);
        Check.that("none such", x.pivots(-1), -1);
        Check.row("the ROW stays", x, 1, 6);
        x.drops(3);
        pivots(x, 3, 1, 2);
        pivots(x, 0, 1, 6);
        pivots(x, 1, 1, 6);
        x.drops(0);
        x.drops(1);
        pivots(x, 3, 1, 1);
        pivots(x, 2, 0, 1);
        pivots(Check.of(SEVEN, ""), 3, 1, 7);
    }

    private static void promise29() {
        StreamersHeld x = Check.of("g50000;p50000;y30000;y10000;b40000", "");
        Check.that("of equal ones the least", x.colours(), 0);
        Check.row("colours()", x, 5, 5, 4, 4);
        x.drops(1);
        Check.that("green", x.colours(), 1);
        Check.row("colours()", x, 0, 5, 4, 4);
        x.drops(0);
        Check.that("blue", x.colours(), 2);
        x.sheet(2, 5, 9, 0);
        Check.that("yellow", x.colours(), 3);
        Check.row("colours()", x, 0, 0, 9, 18);
        x.drops(2);
        x.drops(3);
        x.drops(4);
        Check.that("none", x.colours(), 0);
        Check.row("none", x, 0, 0, 0, 0);
    }

    private static void parties(String lines, int apart, int part, int counts) {
        StreamersHeld x = Check.of(lines, "");
        Check.that("parties() of " + lines, x.parties(), apart);
        Check.row("parties() of " + lines, x, part, counts);
    }

    private static void promise30() {
        parties("p50000;g30000;b20000", 0, 1, 5);
        parties("p90000;p90000", 0, 1, 9);
        parties("p50000;p90000", 4, 1, 5);
        parties("p90000;p50000", 4, 1, 9);
        parties("p70000", 7, 0, 0);
        parties("p10000;p20000;p90000", 6, 3, 3);
        parties(SEVEN, 3, 7, 9);
        parties("p10000;p50000;p40000;p20000", 0, 3, 6);
        StreamersHeld x = Check.of("p50000;g30000;b20000", "");
        x.drops(0);
        Check.that("without the DROPPED one", x.parties(), 1);
        Check.row("without the DROPPED one", x, 2, 3);
        x.drops(1);
        x.drops(2);
        Check.that("none", x.parties(), 0);
        Check.row("none", x, 0, 0);
    }

    private static void promise31() {
        StreamersHeld x = Check.of("p50000;p40000;g50000;p50000;y50000;b10000", "9*(s=4)");
        x.drops(0);
        x.drops(2);
        x.drops(4);
        x.hours(1);
        int[][] asked = {{1, 0, 0, 0}, {2, 0, 0, 0}, {1, 1, 0, 0}, {0, 0, 0, 0}, {2, 1, 0, 1},
            {0, 0, 0, 1}, {1, 0, 0, 1}};
        int[][] want = {{2, 1}, {1, 3}, {2, 5}, {1, 0}, {1, 23}, {1, 16}, {2, 17}};
        for (int i = 0; i < asked.length; i++) {
            int[] a = asked[i];
            Check.that("ends() " + i, x.ends(a[0], a[1], a[2], a[3]), want[i][0]);
            Check.row("ends() " + i, x, want[i][1]);
        }
        int[][] none = {{8, 0, 0, 0}, {0, 8, 0, 0}, {0, 0, 8, 0}, {0, 0, 0, 8}, {-1, 0, 0, 0},
            {0, -1, 0, 0}, {0, 0, -1, 0}, {0, 0, 0, -1}};
        for (int[] a : none) {
            Check.that("ends() refused", x.ends(a[0], a[1], a[2], a[3]), -1);
        }
        Check.row("the ROW stays", x, 17);
        int[][] noWay = {{3, 0, 0, 0}, {0, 2, 0, 0}, {0, 0, 1, 0}, {0, 0, 0, 2}, {7, 7, 7, 7}};
        for (int[] a : noWay) {
            Check.that("ends(), no way", x.ends(a[0], a[1], a[2], a[3]), 0);
            Check.row("ends(), no way", x);
        }
    }

    private static void promise32() {
        StreamersHeld x = Check.of("p50919;p50929;p50939;g50939", "99");
        x.hours(1);
        int[][] want = {{3, 1, 4, 3}, {6, 2, 12, 3}, {9, 4, 15, 1}, {0, 0, 0, 1}, {1, 1, 1, 1},
            {4, 2, 5, 2}};
        for (int[] w : want) {
            Check.that("just(" + w[0] + ")", x.just(w[0]), w[1]);
            Check.row("just(" + w[0] + ")", x, w[2], w[3]);
        }
        Check.that("just(10)", x.just(10), -2);
        Check.that("just(9999)", x.just(9999), -2);
        Check.that("just(10000)", x.just(10000), -1);
        Check.that("just(-1)", x.just(-1), -1);
        Check.row("the ROW stays", x, 5, 2);
        x = Check.of("p50909;p50929", "");
        x.hours(1);
        Check.that("just(2), one of 0", x.just(2), 1);
        Check.row("just(2), one of 0", x, 2, 2);
    }

    private static void odds(StreamersHeld x, int p, int k, int upper, int lower) {
        Check.that("odds(" + p + ", " + k + ")", x.odds(p, k), 0);
        Check.row("odds(" + p + ", " + k + ")", x, upper, lower);
    }

    private static void promise41() {
        StreamersHeld x = Check.of("p50000;g30000;b90000", "");
        x.drops(2);
        odds(x, 5, 5, 1, 2);
        odds(x, 5, 3, 3, 4);
        odds(x, 3, 8, 49, 100);
        odds(x, 3, 9, 0, 1);
        odds(x, 1, 1, 99, 100);
        odds(x, 0, 8, 1, 1);
        odds(x, 10, 0, 1, 1);
        odds(x, 10, 1, 0, 1);
        odds(x, 4, 0, 1, 1);
        int[][] none = {{-1, 0}, {11, 0}, {0, -1}, {0, 64}};
        for (int[] a : none) {
            Check.that("odds() refused", x.odds(a[0], a[1]), -1);
        }
        Check.row("the ROW stays", x, 1, 1);
        odds(Check.of(SEVEN.replace('3', '9'), ""), 0, 63, 1, 1);
        odds(Check.of(SEVEN, ""), 7, 21, 2187, 10000000);
        odds(Check.of(SEVEN, ""), 9, 1, 5217031, 10000000);
    }
}
