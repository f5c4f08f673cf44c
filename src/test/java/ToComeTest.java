/** Promises 16 to 26: hours to come, and what makes one hold. */
public final class ToComeTest {
    /** They break behind 2, 4 and 6 HOURS; WAY goes 3, 6, 9, 11, 13, 15, 18, 21 .. */
    private static final String THREE = "p10009;g30108;y50209";
    private static final String IN_TURN = "99*(n=s)";

    public static void main(String[] args) {
        promise16();
        promise17();
        promise18();
        promise19();
        promise20();
        promise21();
        promise22();
        promise23();
        promise24();
        promise25();
        promise26();
        questionsChangeNothing();
        Check.close("ToComeTest");
    }

    private static void promise16() {
        StreamersHeld x = Check.of(THREE, IN_TURN);
        int[] way = {0, 3, 6, 9, 11, 13, 15, 18, 21};
        int[] hold = {7, 7, 6, 6, 4, 4, 0, 0, 0};
        int[] taut = {0, 0, 0, 6, 4, 4, 0, 0, 0};
        for (int n = 0; n < way.length; n++) {
            Check.that("later(" + n + ")", x.later(n), way[n]);
            Check.row("later(" + n + ")", x, hold[n], taut[n]);
        }
        Check.that("later(99)", x.later(99), 15 + 93 * 3);
        x.later(3);
        Check.that("later(100)", x.later(100), -1);
        Check.that("later(-1)", x.later(-1), -1);
        Check.row("the ROW stays", x, 6, 6);
        x.hours(2);
        Check.that("from now on", x.later(2), 11);
    }

    private static void promise17() {
        StreamersHeld x = Check.of(THREE, IN_TURN);
        x.rates(2, 1);
        Check.that("when(0)", x.when(0), 2);
        Check.row("when(0)", x, 6, 0);
        Check.that("when(1)", x.when(1), 4);
        Check.row("when(1)", x, 12, 0);
        Check.that("when(2)", x.when(2), 6);
        Check.row("when(2)", x, 16, 2);
        Check.that("when(3)", x.when(3), -1);
        Check.that("when(-1)", x.when(-1), -1);
        x.drops(1);
        Check.that("a DROPPED one", x.when(1), 0);
        Check.row("a DROPPED one", x, 0, 0);
        x.hours(3);
        Check.that("a BROKEN one", x.when(0), 0);
        Check.row("a BROKEN one", x, 9, 0);
        Check.that("when(2)", x.when(2), 3);
        Check.row("when(2)", x, 16, 2);
        x = Check.of("p40000", "9*(k=297)");
        Check.that("behind 99", x.when(0), 99);
        Check.row("behind 99", x, 297, 0);
        x = Check.of("p40000", "9*(k=300)");
        Check.that("behind 100", x.when(0), -2);
        Check.row("the ROW stays", x);
    }

    private static void promise18() {
        StreamersHeld x = Check.of(THREE, IN_TURN);
        Check.that("order()", x.order(), 3);
        Check.row("order()", x, 0, 1, 2);
        x.sheet(2, 3, 5, -2);
        Check.that("turned", x.order(), 3);
        Check.row("turned", x, 2, 1, 0);
        x.sheet(2, 3, 5, -1);
        x.drops(1);
        Check.that("without the DROPPED one", x.order(), 2);
        Check.row("without the DROPPED one", x, 2, 0);
        x.hours(4);
        Check.that("without the BROKEN one", x.order(), 1);
        Check.row("without the BROKEN one", x, 0);
        x.hours(2);
        Check.that("none", x.order(), 0);
        Check.row("none", x);
        x = Check.of("p20000;p20000", "9*(k=297)");
        Check.that("in the 99th", x.order(), 2);
        Check.row("in one HOUR by numbers", x, 0, 1);
        x.later(1);
        Check.put(x, "9*(k=300)").rule();
        Check.that("in the 100th", x.order(), 0);
        Check.row("in the 100th", x);
    }

    private static void promise19() {
        StreamersHeld x = Check.of(THREE, IN_TURN);
        Check.that("gone()", x.gone(), 6);
        Check.row("gone()", x, 15);
        x.drops(2);
        Check.that("the last one DROPPED", x.gone(), 4);
        Check.row("the last one DROPPED", x, 12);
        x.drops(1);
        x.drops(0);
        x.speed(5);
        Check.that("none now", x.gone(), 0);
        Check.row("none now", x, 0);
        x = Check.of("p40000", "9*(k=297)");
        Check.that("behind 99", x.gone(), 99);
        Check.row("behind 99", x, 297);
        Check.put(x, "9*(k=300)").rule();
        Check.that("behind 100", x.gone(), -2);
        Check.row("the ROW stays", x, 297);
    }

    private static void promise20() {
        StreamersHeld x = Check.of(THREE, IN_TURN);
        x.drag();
        Check.that("on none", x.stopped(), -2);
        Check.row("the ROW stays", x, 0, 9);
        x = Check.of("p90000;p60000", "9*(n=3)*(s=6)");
        Check.that("at once", x.stopped(), 1);
        Check.row("at once", x, 4, 0);
        x = Check.of("p90002;p60002", "9*(n=3)*(s=6)");
        Check.that("on the second", x.stopped(), 2);
        Check.row("on the second", x, 3, 3);
        x = Check.of("p90002;p60002", "0");
        Check.that("on the second, and on", x.stopped(), 2);
        Check.row("on the second, and on", x, 98, 3);
        x = new StreamersHeld();
        x.speed(0);
        Check.that("SPEED 0", x.stopped(), 1);
        Check.row("SPEED 0", x, 99, 0);
        x = Check.of("p50009;y50209", "0");
        x.speed(1);
        Check.that("stopped by one alone", x.stopped(), 10);
        Check.row("stopped by one alone", x, 90, 9);
    }

    private static void promise21() {
        StreamersHeld x = Check.of("p90000;p60001;g50000", "");
        Check.that("14 by 5", x.drag(), 2);
        Check.row("14 by 5", x, 5, 20);
        x.drops(2);
        Check.that("9 by 5", x.drag(), 1);
        Check.row("9 by 5", x, 1, 15);
        x.hours(2);
        Check.that("15 by 5", x.drag(), 3);
        Check.row("15 by 5", x, 3, 15);
        x.drops(0);
        Check.that("6 by 5", x.drag(), 1);
        Check.row("6 by 5", x, 2, 6);
        x.drops(1);
        Check.that("none", x.drag(), 0);
        Check.row("none", x, 0, 0);
        x = Check.of("p90000;p90000;p90000;p90000;p90000;p90000;p90000", "");
        Check.that("63 by 5", x.drag(), 12);
        Check.row("63 by 5", x, 127, 63);
    }

    private static void promise22() {
        StreamersHeld x = Check.of("p39900;g10002", "");
        int[][] want = {{1, 0, 10}, {2, 2, 8}, {3, 2, 8}, {5, 3, 7}, {34, 3, 7}};
        for (int[] w : want) {
            Check.that("thrift(0, " + w[0] + ")", x.thrift(0, w[0]), w[1]);
            Check.row("thrift(0, " + w[0] + ")", x, w[2]);
        }
        Check.that("by none", x.thrift(0, 35), -2);
        Check.that("by none", x.thrift(0, 60), -2);
        Check.row("the ROW stays", x, 7);
        Check.that("without REEL, 1", x.thrift(1, 1), 0);
        Check.that("without REEL, 2", x.thrift(1, 2), -2);
        int[][] none = {{0, 0}, {0, 61}, {-1, 5}, {2, 5}, {0, -1}};
        for (int[] a : none) {
            Check.that("thrift() refused", x.thrift(a[0], a[1]), -1);
        }
        x.drops(0);
        Check.that("a DROPPED one", x.thrift(0, 1), -2);
        StreamersHeld y = Check.of("p39900", "0");
        Check.that("by all", y.thrift(0, 60), 0);
        Check.row("by all", y, 10);
        Check.that("nothing was done", x.streamer(0, 3), 0);
    }

    private static void promise23() {
        StreamersHeld x = Check.of("p30000;g10000", "");
        int[][] want = {{1, 0, 1, 1}, {2, 3, 2, 1}, {3, 6, 3, 1}, {4, 9, 4, 1}, {60, 9, 4, 1}};
        for (int[] w : want) {
            Check.that("mole(0, " + w[0] + ")", x.mole(0, w[0]), w[1]);
            Check.row("mole(0, " + w[0] + ")", x, w[2], w[3]);
        }
        int[][] none = {{0, 0}, {0, 61}, {-1, 5}, {2, 5}, {7, 1}};
        for (int[] a : none) {
            Check.that("mole() refused", x.mole(a[0], a[1]), -1);
        }
        Check.row("the ROW stays", x, 4, 1);
        x.runs(0, 7);
        Check.that("as it is at 7", x.mole(0, 5), 9);
        Check.row("as it is at 7", x, 4, 3);
        x.drops(0);
        Check.that("a DROPPED one", x.mole(0, 5), 0);
        Check.row("a DROPPED one", x, 0, 0);
        x = Check.of("p20000", "");
        Check.that("9 is the farthest", x.mole(0, 60), 7);
        Check.row("9 is the farthest", x, 3, 0);
        x = Check.of("p30009", "9*(p>3)");
        Check.that("its own is not the best", x.mole(0, 60), 0);
        Check.row("its own is not the best", x, 60, 0);
    }

    private static void promise24() {
        StreamersHeld x = Check.of("p30000;g90009", "");
        int[][] want = {{0, 2, 9, 1, 1}, {1, 2, 9, 1, 1}, {2, 2, 1, 2, 1}, {2, 3, 1, 2, 1},
            {2, 4, 0, 2, 1}, {2, 1, 3, 2, 2}};
        for (int[] w : want) {
            Check.that("slows(" + w[0] + ", " + w[1] + ")", x.slows(w[0], w[1]), w[2]);
            Check.row("slows(" + w[0] + ", " + w[1] + ")", x, w[3], w[4]);
        }
        Check.that("slows(3, 1)", x.slows(3, 1), -2);
        Check.that("slows(7, 60)", x.slows(7, 60), -2);
        int[][] none = {{8, 1}, {-1, 1}, {0, 0}, {0, 61}};
        for (int[] a : none) {
            Check.that("slows() refused", x.slows(a[0], a[1]), -1);
        }
        Check.row("the ROW stays", x, 2, 2);
        x = Check.of("p50000", "9*(v>-1)");
        Check.that("0 is the slowest", x.slows(1, 1), -2);
        x = Check.of("p50000", "9*(v<9)");
        Check.that("9 is the fastest", x.slows(1, 1), 9);
        x = Check.of("p50000", "9*(v>0)");
        Check.that("0 alone", x.slows(1, 1), 0);
        Check.row("0 alone", x, 1, 0);
        x = Check.of("p90000;p90000;p90000;p90000;p90000;p90000;p90000", "");
        Check.that("all seven", x.slows(7, 60), 9);
        Check.row("all seven", x, 7, 7);
    }

    private static void promise25() {
        StreamersHeld x = Check.of("p90009;p60009;g50009;b10009", "");
        int[][] want = {{3, 2, 3}, {2, 2, 3}, {1, 1, 1}, {0, 0, 0}, {4, 3, 7}};
        for (int[] w : want) {
            x.speed(w[0]);
            Check.that("halts(), SPEED " + w[0], x.halts(), w[1]);
            Check.row("halts(), SPEED " + w[0], x, w[2]);
        }
        x.speed(5);
        Check.that("by none", x.halts(), -2);
        Check.row("the ROW stays", x, 7);
        x.speed(1);
        x.drops(0);
        Check.that("without the DROPPED one", x.halts(), 1);
        Check.row("without the DROPPED one", x, 2);
        x.speed(2);
        Check.that("11 by 5", x.halts(), 2);
        Check.row("11 by 5", x, 6);
        x = Check.of("p30000;p30000;p40000;p90000", "");
        x.speed(1);
        Check.that("one is fewer than two of less bits", x.halts(), 1);
        Check.row("one is fewer than two of less bits", x, 8);
    }

    private static void promise26() {
        StreamersHeld x = Check.of("p50000;p50000;p50000;g50000", "3*c");
        int[][] want = {{0, 5, 1, 2}, {1, 5, 1, 1}, {2, 60, 1, 1}, {3, 60, 0, 0}};
        for (int[] w : want) {
            Check.that("frees(" + w[0] + ")", x.frees(w[0], w[1]), w[2]);
            Check.row("frees(" + w[0] + ")", x, w[3]);
        }
        Check.put(x, "6*c").rule();
        Check.that("both others", x.frees(2, 1), 2);
        Check.row("both others", x, 3);
        x.drops(1);
        Check.that("the one other", x.frees(2, 1), 1);
        Check.row("the one other", x, 1);
        Check.that("a DROPPED one", x.frees(1, 1), -2);
        Check.put(x, "9").rule();
        Check.that("by none", x.frees(0, 1), -2);
        int[][] none = {{0, 0}, {0, 61}, {-1, 1}, {4, 1}};
        for (int[] a : none) {
            Check.that("frees() refused", x.frees(a[0], a[1]), -1);
        }
        Check.row("the ROW stays", x, 1);
        x = Check.of("p10000;p90000;p50000", "2*(v+1>k)*(n=1)*(s=1)");
        Check.that("one that holds her back is let go", x.frees(0, 2), 1);
        Check.row("one that holds her back is let go", x, 2);
    }

    private static void questionsChangeNothing() {
        StreamersHeld x = Check.of(THREE, IN_TURN);
        x.hours(1);
        x.later(5);
        x.when(1);
        x.order();
        x.gone();
        x.stopped();
        x.thrift(0, 3);
        x.mole(0, 3);
        x.slows(2, 5);
        x.frees(1, 5);
        x.years(7, 30);
        Check.put(x, "99").law();
        Check.that("which HOLD", x.count(1), 7);
        Check.that("WAY", x.count(2), 3);
        Check.that("SPEED", x.count(3), 3);
        Check.that("HOUR", x.count(4), 1);
        Check.that("what can be undone", x.count(10), 1);
        Check.that("PLACE", x.streamer(0, 4), 9);
        Check.that("RATE", x.streamer(0, 3), 0);
        Check.that("THE RULE", x.when(2), 5);
    }
}
