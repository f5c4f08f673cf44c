/** Promises 8 to 15: hours, what is done, undone. */
public final class HoursTest {
    public static void main(String[] args) {
        promise8();
        hourPaysOut();
        hourHoldsBack();
        hourBreaks();
        farAndLong();
        promise9();
        promise10();
        promise11();
        promise12();
        promise13();
        promise14Signs();
        promise14();
        promise15();
        promise15AllOfIt();
        promise15Fifteen();
        Check.close("HoursTest");
    }

    private static void promise8() {
        StreamersHeld x = Check.of("p50304;p71015;g90002", "99*(n=1)*(s=7)+99*(n=3)");
        Check.that("hours(-1)", x.hours(-1), -1);
        Check.that("hours(61)", x.hours(61), -1);
        Check.row("refused", x);
        Check.that("nothing to undo", x.count(10), 0);
        Check.that("hours(0)", x.hours(0), 0);
        Check.row("hours(0)", x, 0, 3);
        Check.that("hours(0) was done", x.count(10), 1);
        Check.that("hours(1)", x.hours(1), 3);
        Check.row("hours(1)", x, 0, 3);
        Check.that("hours(2)", x.hours(2), 6);
        Check.row("hours(2)", x, 2, 2);
        Check.that("hours(61) later", x.hours(61), -1);
        Check.row("the ROW stays", x, 2, 2);
        Check.that("hours(60)", x.hours(60), 6 + 1 + 59 * 3);
        Check.row("hours(60): only those of these hours", x, 5, 0);
        Check.that("HOUR", x.count(4), 63);
    }

    private static void hourPaysOut() {
        StreamersHeld x = Check.of("p10530;p12290;p15000", "0");
        x.drops(2);
        x.hours(1);
        Check.that("as much as RATE", x.streamer(0, 5) * 100 + x.streamer(0, 2), 302);
        Check.that("RATE", x.streamer(1, 5) * 100 + x.streamer(1, 2), 913);
        x.drops(0);
        x.hours(1);
        Check.that("none of a DROPPED one", x.streamer(0, 5) * 100 + x.streamer(0, 2), 302);
        x.drops(0);
        x.hours(1);
        Check.that("all there is", x.streamer(0, 5) * 100 + x.streamer(0, 2), 500);
        x.hours(1);
        Check.that("no more", x.streamer(0, 5) * 100 + x.streamer(0, 2), 500);
        Check.that("all there is", x.streamer(1, 5) * 100 + x.streamer(1, 2), 2200);
    }

    private static void hourHoldsBack() {
        StreamersHeld x = Check.of("p90000;p50000", "0");
        Check.that("14 by 5 is 2", x.drag(), 2);
        Check.that("less by DRAG", x.hours(1), 1);
        x = Check.of("p90000;p60000", "0");
        Check.that("15 by 5 is 3", x.drag(), 3);
        Check.that("stopped", x.hours(1), 0);
        x.speed(2);
        Check.that("not driven back", x.hours(5), 0);
        x.drops(0);
        Check.that("one lets go", x.hours(1), 1);
        x = Check.of("p90110;p60110", "0");
        Check.that("TAUT now", x.drag(), 3);
        Check.that("first it pays out", x.hours(1), 3);
        x = Check.of("p90001;p60001", "0");
        Check.that("LACK below 0 holds not back", x.hours(1), 3);
        Check.that("LACK 2 does", x.hours(1), 3);
    }

    private static void hourBreaks() {
        StreamersHeld x = Check.of("p50000", "5");
        x.hours(1);
        Check.that("PULL as STRENGTH holds", x.count(1), 1);
        x = Check.of("p50000", "6");
        x.hours(1);
        Check.that("PULL above it breaks", x.count(5), 1);
        x = Check.of("p50000;p50000", "9*(c=1)");
        x.hours(1);
        Check.that("both, as all is ahead of it", x.count(5), 3);
        x = Check.of("p50000;p40000", "5*(c=1)+6*(c=0)");
        x.hours(1);
        Check.that("the weaker one first", x.count(5), 2);
        x.hours(1);
        Check.that("then the other", x.count(5), 3);
        x = Check.of("p40000", "9*(k=3)");
        x.hours(1);
        Check.that("LACK as WAY is then", x.count(5), 1);
        x = Check.of("p50210", "9*(r=1)");
        x.hours(1);
        Check.that("REEL as it is then", x.count(5), 1);
        x = Check.of("p50000", "9*(n=1)");
        x.hours(1);
        Check.that("HOUR as it was", x.count(5), 0);
        x.hours(1);
        Check.that("HOUR as it was 1", x.count(5), 1);
        x = Check.of("p50000", "9*(n=0)*(k>9)");
        x.hours(7);
        Check.that("HOUR by 7, not yet", x.count(5), 0);
        x.hours(1);
        Check.that("HOUR by 7, the rest", x.count(5), 1);
        x = Check.of("p50000", "99");
        x.drops(0);
        x.hours(1);
        Check.that("a DROPPED one is not BROKEN", x.count(5), 0);
        x = Check.of("p50000;g50000", "9*(c=0)*(s=5)");
        x.hours(1);
        Check.that("others of its COLOUR alone", x.count(5), 3);
    }

    private static void farAndLong() {
        StreamersHeld x = Check.of("p90090;p90000", "0");
        x.drops(1);
        for (int i = 0; i < 100; i++) {
            x.reels(0, 99);
            x.hours(11);
        }
        Check.that("LENGTH 9900", x.streamer(0, 5), 9900);
        x.reels(0, 98);
        x.hours(11);
        Check.that("LENGTH 9998", x.streamer(0, 5), 9998);
        x.reels(0, 20);
        x.hours(1);
        Check.that("LENGTH 9999 at most", x.streamer(0, 5), 9999);
        Check.that("REEL is less by all", x.streamer(0, 2), 11);
        Check.that("just(9999)", x.just(9999), 1);
        Check.row("just(9999)", x, 1, 2);
        x.drops(0);
        x.speed(9);
        for (int i = 0; i < 20; i++) {
            x.hours(60);
        }
        Check.that("WAY 9999 at most", x.count(2), 9999);
        Check.that("stopped there", x.stopped(), 1);
        Check.row("stopped there", x, 99, 9999);
        Check.that("LACK", x.streamer(1, 7), 20000 + 9999);
        Check.that("PULL", Check.put(x, "").rule(), 0);
        Check.that("PULL", x.streamer(1, 8), 199);
        Check.that("LACK 0", x.streamer(0, 7), 20000);
        x.runs(0, 9);
        Check.that("LACK below 0", x.streamer(0, 7), 19991);
    }

    private static void promise9() {
        StreamersHeld x = Check.of("p50304;g71015", "0");
        Check.that("he is there", x.runs(0, 4), -2);
        Check.that("to 9", x.runs(0, 9), 5);
        Check.that("to 0", x.runs(0, 0), 9);
        Check.that("PLACE", x.streamer(0, 4), 0);
        Check.that("of the other", x.streamer(1, 4), 5);
        Check.that("two were done", x.count(10), 2);
        int[][] none = {{0, -1}, {0, 10}, {-1, 0}, {2, 0}, {7, 5}, {2, 11}};
        for (int[] a : none) {
            Check.that("runs() refused", x.runs(a[0], a[1]), -1);
        }
        Check.that("two yet", x.count(10), 2);
        Check.put(x, "99").rule();
        x.hours(1);
        Check.that("of a BROKEN one, too", x.runs(1, 4), 1);
        Check.that("he is there", x.runs(1, 4), -2);
    }

    private static void promise10() {
        StreamersHeld x = Check.of("p50304;g71015", "0");
        Check.that("it is so", x.rates(0, 0), -2);
        Check.that("to 9", x.rates(0, 9), 10);
        Check.that("to 3", x.rates(0, 3), 19);
        Check.that("RATE", x.streamer(0, 3), 3);
        Check.that("of the other", x.rates(1, 0), 11);
        Check.that("three were done", x.count(10), 3);
        int[][] none = {{0, -1}, {0, 10}, {-1, 0}, {2, 0}, {7, 5}};
        for (int[] a : none) {
            Check.that("rates() refused", x.rates(a[0], a[1]), -1);
        }
        Check.that("three yet", x.count(10), 3);
    }

    private static void promise11() {
        StreamersHeld x = Check.of("p50304;g71015", "0");
        Check.that("1 more", x.reels(0, 1), 4);
        Check.that("95 more", x.reels(0, 95), 99);
        Check.that("1 above", x.reels(0, 1), -2);
        Check.that("99 above", x.reels(1, 90), -2);
        Check.that("to 99", x.reels(1, 89), 99);
        Check.that("REEL", x.streamer(0, 2), 99);
        Check.that("three were done", x.count(10), 3);
        int[][] none = {{0, 0}, {0, 100}, {-1, 1}, {2, 1}, {0, -5}, {0, Integer.MAX_VALUE}};
        for (int[] a : none) {
            Check.that("reels() refused", x.reels(a[0], a[1]), -1);
        }
        x.undo();
        Check.that("as ahead of it", x.streamer(1, 2), 10);
        Check.that("99 of none", Check.of("p50004", "").reels(0, 99), 99);
    }

    private static void promise12() {
        StreamersHeld x = Check.of("p50304;g71015;b90000", "99*(s=9)");
        x.hours(1);
        Check.that("it is BROKEN", x.drops(2), -2);
        Check.that("dropped", x.drops(1), 1);
        Check.that("DROPPED", x.streamer(1, 6), 1);
        Check.that("the other, too", x.drops(0), 0);
        Check.that("taken up again", x.drops(1), 1);
        Check.that("it HOLDS", x.count(1), 2);
        Check.that("none such", x.drops(3), -1);
        Check.that("none such", x.drops(-1), -1);
        Check.that("none such", x.drops(32), -1);
        Check.that("four were done", x.count(10), 4);
    }

    private static void promise13() {
        StreamersHeld x = new StreamersHeld();
        Check.that("it is so", x.speed(3), -2);
        Check.that("to 0", x.speed(0), 13);
        Check.that("to 9", x.speed(9), 10);
        Check.that("to 1", x.speed(1), 19);
        Check.that("SPEED", x.count(3), 1);
        Check.that("10", x.speed(10), -1);
        Check.that("-1", x.speed(-1), -1);
        Check.that("three were done", x.count(10), 3);
    }

    private static int sailing(StreamersHeld x, String text) {
        int answer = Check.put(x, text).sailing();
        Check.that("sailing() empties " + text, x.count(12), 0);
        return answer;
    }

    private static void promise14Signs() {
        StreamersHeld x = Check.of("p50304;g71015;b90000", "0");
        x.fits();
        String[] wrong = {"x", "n", "nn", "n1x", "p1", "p", "p1n", "r", "r0", "r0s", "m", "m1",
            "m10", "m10n", "d", "dd", "s", "s:", "n1n2n", "1", "n12", "d0 ", "N1", "s/", "m000d"};
        int[] at = {0, 1, 1, 2, 2, 1, 2, 1, 2, 2, 1, 2, 3, 3, 1, 1, 1, 1, 5, 0, 2, 2, 0, 1, 5};
        for (int i = 0; i < wrong.length; i++) {
            Check.that("sailing() of " + wrong[i], sailing(x, wrong[i]), -1 - at[i]);
        }
        String s = "n0".repeat(30);
        Check.that("61 signs", sailing(x, s + "n"), -61);
        Check.that("61 signs, wrong", sailing(x, s + "x"), -61);
        Check.that("62 signs", sailing(x, s + "n0"), -61);
        Check.that("60 signs, could go on", sailing(x, s.substring(0, 58) + "p1"), -61);
        Check.that("63 signs, could go on", sailing(x, s.substring(0, 58) + "p11n1"), -61);
        Check.that("62 signs, wrong ahead", sailing(x, "n" + s + "n"), -2);
        Check.that("nothing is done", x.count(10) * 1000 + x.count(4), 0);
        Check.row("the ROW stays", x, 3);
        Check.that("60 signs", sailing(x, s), 30);
        Check.row("60 signs", x, 0, 0);
        Check.that("can be undone as one", x.count(10), 1);
    }

    private static void promise14() {
        StreamersHeld x = Check.of("p50304;g71015;b90000", "0");
        Check.that("an empty one", sailing(x, ""), 0);
        Check.row("an empty one", x, 0, 0);
        Check.that("is none to undo", x.count(10), 0);
        Check.that("one of each", sailing(x, "s9n2p19r02m019d2"), 6);
        Check.row("one of each", x, 0, 13);
        Check.that("SPEED", x.count(3), 9);
        Check.that("HOUR", x.count(4), 2);
        Check.that("PLACE", x.streamer(1, 4), 9);
        Check.that("RATE", x.streamer(0, 3), 2);
        Check.that("REEL", x.streamer(0, 2), 22);
        Check.that("which HOLD", x.count(1), 3);
        Check.that("as one", x.count(10), 1);
        Check.that("the second is refused", sailing(x, "d0s9n9"), 1);
        Check.row("refused", x, 1, 13);
        Check.that("the first is refused", sailing(x, "m000n1"), 0);
        Check.row("refused", x, 1, 13);
        Check.that("no third to undo", x.count(10), 2);
        String[] refused = {"p30", "p19", "r30", "r02", "m301", "m299m201", "d3", "s9", "m100"};
        int[] done = {0, 0, 0, 0, 0, 1, 0, 0, 0};
        for (int i = 0; i < refused.length; i++) {
            Check.that("refused " + refused[i], sailing(x, refused[i]), done[i]);
            Check.row("refused " + refused[i], x, 1, 13);
        }
        Check.that("undo()", x.undo(), 2);
        Check.that("undo()", x.undo(), 1);
        Check.that("undo()", x.undo(), 0);
        Check.that("WAY", x.count(2), 0);
        Check.that("SPEED", x.count(3), 3);
        Check.that("which HOLD", x.count(1), 7);
    }

    private static void promise15() {
        StreamersHeld x = Check.of("p50304;g71015;b90000", "99*(n=2)");
        Check.that("none", x.undo(), -1);
        x.hours(2);
        x.hours(1);
        Check.that("all BROKEN", x.count(5), 7);
        Check.that("undo hours()", x.undo(), 1);
        Check.that("not BROKEN", x.count(5), 0);
        Check.that("HOUR", x.count(4), 2);
        Check.that("WAY", x.count(2), 4);
        Check.that("LENGTH", x.streamer(1, 5), 2);
        x.runs(1, 0);
        x.rates(1, 9);
        x.reels(1, 9);
        x.drops(1);
        x.speed(0);
        Check.that("undo speed()", x.undo(), 5);
        Check.that("SPEED", x.count(3), 3);
        Check.that("undo drops()", x.undo(), 4);
        Check.that("it HOLDS", x.count(1), 7);
        Check.that("undo reels()", x.undo(), 3);
        Check.that("REEL", x.streamer(1, 2), 8);
        Check.that("undo rates()", x.undo(), 2);
        Check.that("RATE", x.streamer(1, 3), 1);
        Check.that("undo runs()", x.undo(), 1);
        Check.that("PLACE", x.streamer(1, 4), 5);
        Check.that("undo hours()", x.undo(), 0);
        Check.that("WAY", x.count(2) + x.count(4) + x.streamer(1, 5), 0);
        Check.that("none", x.undo(), -1);
        x.hours(1);
        Check.that("refused streamers()", Check.put(x, "p").streamers(), -2);
        Check.that("empty streamers()", x.streamers(), 0);
        Check.that("can be undone yet", x.count(10), 1);
        Check.that("streamers()", Check.put(x, "p11111").streamers(), 1);
        Check.that("forgets", x.undo(), -1);
    }

    /** One HOLDS, one is DROPPED, one is BROKEN; four acts can be undone. */
    private static StreamersHeld threeFates() {
        StreamersHeld x = Check.of("p50534;g72015;b90002", "99*(s=9)*(n=1)");
        x.hours(2);
        x.drops(1);
        x.rates(0, 4);
        x.speed(8);
        return x;
    }

    private static void promise15AllOfIt() {
        StreamersHeld x = threeFates();
        String was = all(x);
        Check.that("one BROKEN, one DROPPED", x.count(5) * 10 + x.count(1), 41);
        for (int act = 0; act < 7; act++) {
            x = threeFates();
            Check.that("act " + act, act(x, act) >= 0, true);
            Check.that("it is otherwise", all(x).equals(was), false);
            Check.that("four and one", x.count(10), 5);
            Check.that("act " + act + " undone", x.undo(), 4);
            Check.that("as ahead of it", all(x), was);
        }
        x = threeFates();
        x.keep(1);
        act(x, 0);
        act(x, 3);
        act(x, 5);
        x.again(1);
        Check.that("as it was kept", all(x), was);
    }

    private static int act(StreamersHeld x, int act) {
        switch (act) {
            case 0: return x.hours(3);
            case 1: return x.runs(2, 7);
            case 2: return x.rates(1, 7);
            case 3: return x.reels(0, 7);
            case 4: return x.drops(1);
            case 5: return x.speed(7);
            default: return Check.put(x, "n1p00r00m001d0s0").sailing();
        }
    }

    private static String all(StreamersHeld x) {
        StringBuilder all = new StringBuilder();
        for (int what = 0; what < 7; what++) {
            all.append(x.count(what)).append(' ');
            for (int i = 0; i < x.count(0); i++) {
                all.append(x.streamer(i, what)).append(' ');
            }
        }
        return all.toString();
    }

    private static void promise15Fifteen() {
        StreamersHeld x = Check.of("p50304", "0");
        for (int i = 1; i <= 20; i++) {
            x.speed(i % 10);
            Check.that("at most 15", x.count(10), Math.min(15, i));
        }
        x.speed(0);
        Check.that("it is so", x.count(10), 15);
        for (int i = 14; i >= 0; i--) {
            Check.that("undo()", x.undo(), i);
            Check.that("SPEED", x.count(3), (i + 5) % 10);
        }
        Check.that("none", x.undo(), -1);
        for (int i = 0; i < 40; i++) {
            x.hours(1);
        }
        Check.that("15 yet", x.undo(), 14);
        Check.that("HOUR", x.count(4), 39);
    }
}
