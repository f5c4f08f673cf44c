/** Promises 8 to 15, sentence by sentence: their boundary cases. */
public final class Promises8To15Test {
    private static final String THREE = "p50304;g71015;b90002";
    private static final int[] NO_STREAMER = {-1, 3, 7, 31, 32, 33, Integer.MIN_VALUE,
        Integer.MAX_VALUE};
    private static final int[] NO_DIGIT = {-1, 10, 99, Integer.MIN_VALUE, Integer.MAX_VALUE};

    public static void main(String[] args) throws Exception {
        Check.all(Promises8To15Test.class);
    }

    /** WAY 5; the first one is BROKEN in the second HOUR, the second one DROPPED ahead of it. */
    private static StreamersHeld three() {
        StreamersHeld x = Check.of(THREE, "9*(s=5)*(n=1)");
        x.drops(1);
        x.hours(1);
        x.hours(1);
        return x;
    }

    /** A call on one that is refused: nothing is changed, nor can more be undone. */
    private static void refused(String call, int answer) {
        StreamersHeld x = three();
        String was = Check.state(x);
        Check.that(call, Check.call(x, call), answer);
        Check.that(call + " changes nothing", Check.state(x), was);
    }

    // ---- hours

    static void p8Hours() {
        Check.promise(8, "n HOURS (0 .. 60): WAY then");
        for (int n = 0; n <= 60; n++) {
            StreamersHeld x = Check.of("p10009", "0");
            Check.that("hours(" + n + ")", x.hours(n), 3 * n);
            Check.that("HOUR", x.count(4), n);
            Check.row("one HOLDS", x, 0, 1);
            Check.that("can be undone", x.count(10), 1);
        }
    }

    static void p8Row() {
        Check.promise(8, "the ROW: which came to be BROKEN in these (bits), how many HOLD then.");
        StreamersHeld x = Check.of("p10000;g20000;b30000;y40000", "9*(s=n)+9*(s=n+3)");
        x.drops(1);
        x.hours(0);
        Check.row("in none", x, 0, 3);
        x.hours(1);
        Check.row("HOUR 0: STRENGTH 3", x, 4, 2);
        x.hours(0);
        Check.row("not those ahead of these", x, 0, 2);
        x.hours(1);
        Check.row("HOUR 1: STRENGTH 1 and 4", x, 9, 0);
        x.drops(1);
        x.hours(1);
        Check.row("HOUR 2: STRENGTH 2", x, 2, 0);
        x.hours(60);
        Check.row("none is left", x, 0, 0);
        x = Check.of("p10000;g20000;b30000;y40000", "9*(s=n)+9*(s=n+3)");
        x.hours(60);
        Check.row("all of these HOURS", x, 15, 0);
    }

    static void p8Refused() {
        Check.promise(8, "Refused: another n.");
        for (int n : new int[] {-1, 61, 62, Integer.MIN_VALUE, Integer.MAX_VALUE}) {
            refused("hours " + n, -1);
        }
    }

    // ---- runs

    static void p9HowFar() {
        Check.promise(9, "One runs to a PLACE v (0 .. 9) with his STREAMER: how far that is.");
        for (int from = 0; from <= 9; from++) {
            for (int to = 0; to <= 9; to++) {
                StreamersHeld x = Check.of("p5000" + from + ";g10000", "");
                Check.that(from + " to " + to, x.runs(0, to), from == to ? -2
                    : from < to ? to - from : from - to);
                Check.that("PLACE", x.streamer(0, 4), to);
                Check.that("of the other", x.streamer(1, 4), 0);
                Check.that("can be undone", x.count(10), from == to ? 0 : 1);
            }
        }
    }

    static void p9HeIsThere() {
        Check.promise(9, "-2: he is there;");
        refused("runs 0 4", -2);
        refused("runs 1 5", -2);
        refused("runs 2 2", -2);
    }

    static void p9Others() {
        Check.promise(9, "NONE: others.");
        for (int v : NO_DIGIT) {
            refused("runs 0 " + v, -1);
        }
        for (int one : NO_STREAMER) {
            refused("runs " + one + " 1", -1);
        }
    }

    // ---- rates

    static void p10TenAndWhatItWas() {
        Check.promise(10, "RATE of one becomes v (0 .. 9): 10 and what it was.");
        for (int was = 0; was <= 9; was++) {
            for (int v = 0; v <= 9; v++) {
                StreamersHeld x = Check.of("p500" + was + "0;g10000", "");
                Check.that(was + " to " + v, x.rates(0, v), was == v ? -2 : 10 + was);
                Check.that("RATE", x.streamer(0, 3), v);
                Check.that("of the other", x.streamer(1, 3), 0);
                Check.that("can be undone", x.count(10), was == v ? 0 : 1);
            }
        }
    }

    static void p10ItIsSo() {
        Check.promise(10, "-2: it is so;");
        refused("rates 0 0", -2);
        refused("rates 1 1", -2);
    }

    static void p10Others() {
        Check.promise(10, "NONE: others.");
        for (int v : NO_DIGIT) {
            refused("rates 0 " + v, -1);
        }
        for (int one : NO_STREAMER) {
            refused("rates " + one + " 5", -1);
        }
    }

    // ---- reels

    static void p11Reel() {
        Check.promise(11, "REEL of one is n (1 .. 99) more: REEL.");
        for (int n = 1; n <= 99; n++) {
            StreamersHeld x = Check.of("p50000;g10000", "");
            Check.that("0 and " + n, x.reels(0, n), n);
            Check.that("REEL", x.streamer(0, 2), n);
            Check.that("of the other", x.streamer(1, 2), 0);
            Check.that("can be undone", x.count(10), 1);
            Check.that("filled to 99", n == 99 ? 99 : x.reels(0, 99 - n), 99);
        }
    }

    static void p11Above99() {
        Check.promise(11, "-2: it would be above 99;");
        for (int has = 1; has <= 99; has++) {
            StreamersHeld x = Check.of("p5" + has / 10 + has % 10 + "00", "");
            Check.that(has + " and " + (100 - has), x.reels(0, 100 - has), -2);
            Check.that(has + " and 99", x.reels(0, 99), -2);
            Check.that("nothing came", x.streamer(0, 2), has);
            Check.that("nothing can be undone", x.count(10), 0);
        }
    }

    static void p11Others() {
        Check.promise(11, "NONE: others.");
        for (int n : new int[] {0, -1, 100, 101, Integer.MIN_VALUE, Integer.MAX_VALUE}) {
            refused("reels 0 " + n, -1);
        }
        for (int one : NO_STREAMER) {
            refused("reels " + one + " 1", -1);
        }
    }

    // ---- drops

    static void p12DroppedOrTakenUp() {
        Check.promise(12, "The end of one is DROPPED on board, or taken up again: how many HOLD "
            + "then.");
        StreamersHeld x = Check.of("p10000;p10000;p10000;p10000;p10000;p10000;p10000", "");
        for (int i = 0; i < 7; i++) {
            Check.that("DROPPED", x.drops(i), 6 - i);
            Check.that("DROPPED", x.streamer(i, 6), 1);
        }
        for (int i = 6; i >= 0; i--) {
            Check.that("taken up", x.drops(i), 7 - i);
            Check.that("it HOLDS", x.streamer(i, 6), 0);
        }
        Check.that("each can be undone", x.count(10), 14);
    }

    static void p12Broken() {
        Check.promise(12, "-2: it is BROKEN;");
        refused("drops 0", -2);
        Check.that("the DROPPED one is not", three().drops(1), 2);
    }

    static void p12NoneSuch() {
        Check.promise(12, "NONE: none such.");
        for (int one : NO_STREAMER) {
            refused("drops " + one, -1);
        }
    }

    // ---- speed

    static void p13TenAndWhatItWas() {
        Check.promise(13, "SPEED becomes v (0 .. 9): 10 and what it was.");
        for (int was = 0; was <= 9; was++) {
            for (int v = 0; v <= 9; v++) {
                StreamersHeld x = new StreamersHeld();
                x.speed(was);
                int undoable = x.count(10);
                Check.that(was + " to " + v, x.speed(v), was == v ? -2 : 10 + was);
                Check.that("SPEED", x.count(3), v);
                Check.that("can be undone", x.count(10) - undoable, was == v ? 0 : 1);
            }
        }
    }

    static void p13ItIsSo() {
        Check.promise(13, "-2: it is so;");
        refused("speed 3", -2);
    }

    static void p13Another() {
        Check.promise(13, "NONE: another v.");
        for (int v : NO_DIGIT) {
            refused("speed " + v, -1);
        }
    }

    // ---- sailing

    private static int sailing(StreamersHeld x, String text) {
        int answer = Check.put(x, text).sailing();
        Check.that("THE TEXT is empty behind " + text, x.count(12), 0);
        return answer;
    }

    static void p14Empty() {
        Check.promise(14, "THE TEXT tells A SAILING (an empty one: nothing)");
        StreamersHeld x = three();
        String was = Check.state(x);
        Check.that("none done", sailing(x, ""), 0);
        Check.row("none refused", x, 0, 5);
        Check.that("nothing", Check.state(x), was);
    }

    static void p14Acts() {
        Check.promise(14, "n and a digit (hours()), p and two digits (runs()), r and two digits "
            + "(rates()), m, a digit and two digits (reels()), d and a digit (drops()), s and a "
            + "digit (speed())");
        String[] acts = {"n0", "n1", "n9", "p10", "p19", "r10", "r19", "m001", "m096", "m299", "d1",
            "d2", "s0", "s9"};
        String[] calls = {"hours 0", "hours 1", "hours 9", "runs 1 0", "runs 1 9", "rates 1 0",
            "rates 1 9", "reels 0 1", "reels 0 96", "reels 2 99", "drops 1", "drops 2", "speed 0",
            "speed 9"};
        for (int i = 0; i < acts.length; i++) {
            StreamersHeld x = three();
            StreamersHeld y = three();
            Check.that(acts[i], sailing(x, acts[i]), 1);
            Check.row(acts[i], x, 0, x.count(2));
            Check.that(calls[i], Check.call(y, calls[i]) >= 0, true);
            Check.that(acts[i] + " is " + calls[i], Check.state(x), Check.state(y));
            Check.that("is otherwise", Check.state(x).equals(Check.state(three())), false);
        }
    }

    static void p14TillOneIsRefused() {
        Check.promise(14, "they are done one by one, till one is refused (it answers below 0): how "
            + "many were done; the ROW: 1 if one was refused, else 0; WAY then.");
        String[] acts = {"p04", "p33", "p91", "r00", "r35", "m000", "m097", "m301", "d0", "d3",
            "d9", "s3"};
        for (String act : acts) {
            StreamersHeld x = three();
            Check.that(act, sailing(x, act), 0);
            Check.row(act, x, 1, 5);
            Check.that(act + " changes nothing", Check.state(x), Check.state(three()));
            Check.that("two ahead of " + act, sailing(x, "n1p20" + act + "s9n9"), 2);
            Check.row("two ahead of " + act, x, 1, 7);
            Check.that("what is behind it is not done", x.count(3) * 100 + x.count(4), 303);
            Check.that("what is ahead of it is", x.streamer(2, 4), 0);
        }
        StreamersHeld x = three();
        Check.that("none refused", sailing(x, "n1s9n1s0n9"), 5);
        Check.row("none refused", x, 0, 5 + 2 + 8);
    }

    static void p14SignCantStand() {
        Check.promise(14, "-1 - p: the sign at p can't stand there (its end, if it ends too early;");
        String all = "n1p19r19m119d1s9";
        String heads = "nprmds";
        for (int p = 0; p < all.length(); p++) {
            for (int sign = 0; sign < 256; sign++) {
                boolean head = heads.indexOf(all.charAt(p)) >= 0;
                boolean digit = sign >= '0' && sign <= '9';
                boolean can = head ? heads.indexOf(sign) >= 0 : digit;
                String other = all.substring(0, p) + (char) sign + "?";
                if (!can) {
                    Check.that(other, sailing(three(), other), -1 - p);
                } else if (!head) {
                    Check.that(other, sailing(three(), other), -2 - p);
                }
            }
            if (heads.indexOf(all.charAt(p)) < 0) {
                Check.that("the first " + p, sailing(three(), all.substring(0, p)), -1 - p);
            }
        }
    }

    static void p14More() {
        Check.promise(14, "60, if it has more and the first 60 could go on or end");
        String sixty = "n1".repeat(30);
        Check.that("60", sailing(three(), sixty), 30);
        for (String end : new String[] {"n1", "s1", "d1", "p1", "r1", "m1"}) {
            String text = sixty.substring(0, 58) + end;
            boolean whole = "nsd".indexOf(end.charAt(0)) >= 0;
            Check.that("60 to " + end, sailing(three(), text), whole ? 30 : -61);
            for (String more : new String[] {"1", "n", "?", "n1n1", "11111"}) {
                moreThan60(text + more, -61);
            }
        }
        Check.that("60 of m", sailing(three(), "m001".repeat(15)), 15);
        moreThan60(sixty.substring(0, 56) + "p11m", -61);
        moreThan60(sixty.substring(0, 54) + "p11m11", -61);
        moreThan60(sixty.substring(0, 59) + "n1", -60);
        moreThan60("1" + sixty, -1);
        moreThan60("n1".repeat(40), -61);
    }

    private static void moreThan60(String text, int due) {
        StreamersHeld x = three();
        Check.that(text, sailing(x, text), due);
        Check.that("nothing was done", Check.state(x), Check.state(three()));
    }

    static void p14NothingIsDone() {
        Check.promise(14, "nothing is done then.");
        StreamersHeld x = three();
        x.fits();
        String[] texts = {"n1?", "s9d", "p10r10m00", "d1 ", "n1n1n1p1"};
        int[] at = {2, 3, 9, 2, 8};
        for (int i = 0; i < texts.length; i++) {
            Check.that(texts[i], sailing(x, texts[i]), -1 - at[i]);
            Check.that(texts[i] + ": nothing", Check.state(x), Check.state(three()));
            Check.row(texts[i] + ": the ROW stays", x, 3);
        }
    }

    // ---- undo

    static void p15EachCall() {
        Check.promise(15, "(all of STREAMERS but COLOUR, STRENGTH, and WAY, SPEED, HOUR are as ahead "
            + "of it)");
        String[] calls = {"hours 5", "runs 1 9", "rates 0 9", "reels 2 9", "drops 1", "drops 2",
            "speed 9"};
        for (String call : calls) {
            StreamersHeld x = three();
            String was = Check.state(x);
            int undoable = x.count(10);
            Check.that(call, Check.call(x, call) >= 0, true);
            Check.that(call + " can be undone", x.count(10), undoable + 1);
            Check.that("it is otherwise", Check.state(x).equals(was), false);
            Check.that(call + " is undone", x.undo(), undoable);
            Check.that(call + " is undone", Check.state(x), was);
        }
        StreamersHeld x = three();
        x.speed(8);
        x.sheet(2, 3, 7, 1);
        x.undo();
        Check.that("STRENGTH stays", x.streamer(0, 1) * 100 + x.streamer(1, 1) * 10
            + x.streamer(2, 1), 789);
        Check.that("SPEED does not", x.count(3), 3);
    }

    static void p15WhatItDoesNot() {
        Check.promise(15, "The latest hours(), runs(), rates(), reels(), drops(), speed() or "
            + "sailing()");
        StreamersHeld x = three();
        x.speed(7);
        Check.put(x, "s").rule();
        x.seen(0, 0, 1);
        x.heard(0, 0);
        x.saw(0, 1, 0);
        x.keep(1);
        x.years(1, 9);
        x.later(9);
        Check.that("the speed alone", x.undo(), 3);
        Check.that("SPEED", x.count(3), 3);
        Check.that("THE RULE stays", x.streamer(2, 8), 109);
        Check.that("what was seen and heard stays", x.count(7) + x.count(8) + x.count(9), 3);
    }

    static void p15Fifteen() {
        Check.promise(15, "(of 15 that are kept, the latest ones;");
        for (int done = 1; done <= 40; done++) {
            StreamersHeld x = new StreamersHeld();
            for (int i = 0; i < done; i++) {
                x.hours(1);
            }
            int kept = done < 15 ? done : 15;
            Check.that(done + " done", x.count(10), kept);
            for (int left = kept - 1; left >= 0; left--) {
                Check.that("undo()", x.undo(), left);
                Check.that("the latest one", x.count(4), done - kept + left);
            }
            Check.that("no more", x.undo(), -1);
            Check.that("HOUR", x.count(4), done - kept);
            x.hours(1);
            Check.that("one anew", x.undo(), 0);
            Check.that("HOUR", x.count(4), done - kept);
        }
    }

    static void p15SuchAsWereDone() {
        Check.promise(15, "such as were done;");
        StreamersHeld x = fifteen();
        Check.that("15", x.count(10), 15);
        String was = Check.state(x);
        String[] calls = {"hours 61", "runs 0 4", "runs 0 10", "rates 0 0", "rates 5 1",
            "reels 0 97", "reels 0 0", "drops 0", "drops 3", "speed 4", "speed 10"};
        for (String call : calls) {
            x = fifteen();
            Check.that(call, Check.call(x, call) < 0, true);
            Check.that(call + " is none", Check.state(x), was);
        }
        x = fifteen();
        for (String call : calls) {
            Check.call(x, call);
        }
        Check.that("a sailing of none", sailing(x, "s4n9"), 0);
        Check.that("a sailing that can't be", sailing(x, "s9?"), -3);
        Check.that("all of it is none", Check.state(x), was);
        for (int left = 14; left >= 0; left--) {
            Check.that("undo()", x.undo(), left);
            Check.that("SPEED as ahead of it", x.count(3), left == 0 ? 3 : 4 + (left + 1) % 2);
        }
        Check.that("all as ahead of them", Check.ship(x), Check.ship(three()));
        Check.that("no more", x.undo(), -1);
    }

    /** The three with 15 acts that can be undone, all of them speed(), 4 and 5 by turns. */
    private static StreamersHeld fifteen() {
        StreamersHeld x = three();
        for (int i = 0; i < 15; i++) {
            x.speed(i % 2 == 0 ? 4 : 5);
        }
        return x;
    }

    static void p15SailingAsOne() {
        Check.promise(15, "sailing() of which one act was done, as one)");
        StreamersHeld x = three();
        String was = Check.state(x);
        Check.that("none done", sailing(x, "s3"), 0);
        Check.that("is none to undo", Check.state(x), was);
        Check.that("an empty one", sailing(x, ""), 0);
        Check.that("is none to undo", Check.state(x), was);
        Check.that("one done", sailing(x, "s4s4"), 1);
        Check.that("is one to undo", x.count(10), 4);
        Check.that("thirty done", sailing(x, "s3s4".repeat(15)), 30);
        Check.that("are one to undo", x.count(10), 5);
        Check.that("six done", sailing(x, "n9p29r09m001d1s9"), 6);
        Check.that("are one to undo", x.count(10), 6);
        Check.that("the six", x.undo(), 5);
        Check.that("the thirty", x.undo(), 4);
        Check.that("SPEED", x.count(3), 4);
        Check.that("the one", x.undo(), 3);
        Check.that("as ahead of them", Check.state(x), was);
    }

    static void p15Refused() {
        Check.promise(15, "how many are left that can be. Refused: none.");
        StreamersHeld x = Check.of(THREE, "");
        Check.that("none", x.undo(), -1);
        x.speed(5);
        x.speed(6);
        Check.that("one is left", x.undo(), 1);
        Check.that("none is left", x.undo(), 0);
        Check.that("none", x.undo(), -1);
        Check.that("SPEED", x.count(3), 3);
    }

    static void p15Forget() {
        Check.promise(15, "(streamers() and again() forget them, if they are not refused; an empty "
            + "streamers() does not.)");
        StreamersHeld x = three();
        x.keep(0);
        Check.that("refused", Check.put(x, "p1000").streamers(), -6);
        Check.that("three yet", x.count(10), 3);
        Check.that("empty", x.streamers(), 0);
        Check.that("three yet", x.count(10), 3);
        Check.that("refused", x.again(1), false);
        Check.that("refused", x.again(3), false);
        Check.that("three yet", x.count(10), 3);
        Check.that("not refused", x.again(0), true);
        Check.that("forgotten", x.count(10), 0);
        Check.that("none", x.undo(), -1);
        x.speed(5);
        Check.that("one", x.count(10), 1);
        Check.that("not refused", Check.put(x, "p10000").streamers(), 1);
        Check.that("forgotten", x.count(10), 0);
        Check.that("none", x.undo(), -1);
        Check.that("again() is refused now", x.again(0), false);
        x.speed(6);
        Check.that("again() refused forgets none", x.undo(), 0);
        Check.that("SPEED", x.count(3), 5);
    }
}
