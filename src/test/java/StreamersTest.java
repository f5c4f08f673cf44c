/** Promises 1 to 7 and 50 to 53: texts, STREAMERS, THE RULE, sheets, what is kept and counted. */
public final class StreamersTest {
    private static final String SEVEN =
        "p11111;p11111;p11111;p11111;p11111;p11111;p11111";

    public static void main(String[] args) {
        promise1();
        promise2();
        promise3();
        promise4();
        promise4WithoutRoom();
        promise5Signs();
        promise5Limits();
        promise5Values();
        promise6();
        promise7();
        promise50And51();
        promise52();
        promise53();
        Check.close("StreamersTest");
    }

    private static void promise1() {
        StreamersHeld x = new StreamersHeld();
        for (int what = 0; what <= 12; what++) {
            Check.that("new, count(" + what + ")", x.count(what), what == 3 ? 3 : 0);
        }
        Check.row("new", x);
        Check.that("NONE", StreamersHeld.NONE, -1);
        Check.that("new, undo()", x.undo(), -1);
        Check.that("new, again(0)", x.again(0), false);
        Check.put(x, "p50304").streamers();
        Check.that("at first no RULE: k", x.streamer(0, 8), 96);
        x.hours(2);
        Check.that("at first no RULE: k", x.streamer(0, 8), 102);
        Check.put(x, "0");
        Check.that("by LACK none breaks yet", x.law(), 1);
        Check.row("by LACK one breaks", x, 1, 0, 46, 64);
    }

    private static void promise2() {
        StreamersHeld x = new StreamersHeld();
        x.sign('g' << 24 | '3' << 16 | '1' << 8 | '0');
        Check.that("second sign()", x.sign('5' << 24 | '2' << 16), 8);
        x.end(6);
        Check.that("the highest byte first", x.streamers(), 1);
        Check.that("its COLOUR", x.streamer(0, 0), 1);
        Check.that("its REEL", x.streamer(0, 2), 10);
        for (int n = 4; n <= 80; n += 4) {
            Check.that("sign() up to 80", x.sign(-1), n);
        }
        Check.that("sign() above 80", x.sign(-1), -1);
        Check.that("nothing came", x.count(12), 80);
        x.end(77);
        Check.that("sign() to 81", x.sign(0), -1);
        Check.that("77 stay", x.count(12), 77);
        x.end(76);
        Check.that("sign() to 80", x.sign(0), 80);
        Check.row("sign() tells none", x);
    }

    private static void promise3() {
        StreamersHeld x = new StreamersHeld();
        Check.that("end(0) of none", x.end(0), true);
        Check.that("end(1) of none", x.end(1), false);
        x.sign('k' << 24 | '+' << 16 | 's' << 8 | '+');
        Check.that("end(5) of 4", x.end(5), false);
        Check.that("end(-1)", x.end(-1), false);
        Check.that("end(MIN)", x.end(Integer.MIN_VALUE), false);
        Check.that("4 stay", x.count(12), 4);
        Check.that("end(4) of 4", x.end(4), true);
        Check.that("end(3)", x.end(3), true);
        Check.that("3 left", x.count(12), 3);
        Check.that("they are the first ones", x.rule(), 0);
    }

    private static int streamers(StreamersHeld x, String text) {
        int answer = Check.put(x, text).streamers();
        Check.that("streamers() empties " + text, x.count(12), 0);
        return answer;
    }

    private static void promise4() {
        StreamersHeld x = new StreamersHeld();
        Check.that("an empty text", streamers(x, ""), 0);
        String[] wrong = {"x", "P93052", "p", "p0", "p9", "p9a", "p93a", "p930a", "p9305a",
            "p93052,g41234", "p930525", "p93052;", "p93052;;", "p93052;g0", "p9305 ", " p93052",
            "p93052;g41234;", "\u00f0", "p/", "p:", "q11111", "f11111", "p93052;y1122"};
        int[] at = {0, 0, 1, 1, 2, 2, 3, 4, 5, 6, 6, 7, 7, 8, 5, 0, 14, 0, 1, 1, 0, 0, 12};
        for (int i = 0; i < wrong.length; i++) {
            Check.that("streamers() of " + wrong[i], streamers(x, wrong[i]), -1 - at[i]);
            Check.that("nothing of it comes", x.count(0), 0);
        }
        Check.that("four lines", streamers(x, "p93052;g41234;b99900;y10099"), 4);
        int[][] want = {{0, 9, 30, 5, 2}, {1, 4, 12, 3, 4}, {2, 9, 99, 0, 0}, {3, 1, 0, 9, 9}};
        for (int i = 0; i < 4; i++) {
            for (int what = 0; what < 5; what++) {
                Check.that("streamer " + i + ", " + what, x.streamer(i, what), want[i][what]);
            }
            Check.that("its LENGTH", x.streamer(i, 5), 0);
            Check.that("it HOLDS", x.streamer(i, 6), 0);
        }
        Check.row("streamers() tells none", x);
    }

    private static void promise4WithoutRoom() {
        StreamersHeld x = new StreamersHeld();
        Check.that("seven", streamers(x, SEVEN), 7);
        Check.that("an eighth", streamers(x, "p11111"), -1);
        Check.that("an eighth that could be none", streamers(x, ";"), -1);
        Check.that("nothing, when full", streamers(x, ""), 0);
        x = new StreamersHeld();
        Check.that("49 signs", streamers(x, SEVEN + ";"), -49);
        Check.that("49 signs, a wrong one", streamers(x, SEVEN + "x"), -49);
        Check.that("80 signs", streamers(x, SEVEN + SEVEN.substring(0, 32)), -49);
        Check.that("49 signs, wrong ahead", streamers(x, SEVEN.replace('p', 'x') + ";"), -1);
        Check.that("49 signs, wrong at 47", streamers(x, SEVEN.substring(0, 47) + ";;"), -48);
        Check.that("none came", x.count(0), 0);
        Check.that("five", streamers(x, SEVEN.substring(0, 34)), 5);
        Check.that("two more and one", streamers(x, SEVEN.substring(0, 20)), -15);
        Check.that("two more, wrong ahead", streamers(x, "p11111;p1x111;p11111"), -10);
        Check.that("two more and ;", streamers(x, SEVEN.substring(0, 14)), -15);
        Check.that("five as ahead", x.count(0), 5);
        x.hours(2);
        Check.that("two more", streamers(x, "g22222;y33333"), 2);
        Check.that("seven now", x.count(0), 7);
        Check.that("the sixth", x.streamer(5, 0), 1);
        Check.that("its LENGTH", x.streamer(5, 5), 0);
        Check.that("its LACK", x.streamer(5, 7), 20000 + x.count(2) - 2);
    }

    private static int rule(StreamersHeld x, String text) {
        int answer = Check.put(x, text).rule();
        Check.that("rule() empties " + text, x.count(12), 0);
        return answer;
    }

    private static void promise5Signs() {
        StreamersHeld x = new StreamersHeld();
        String[] right = {"", "k", "s", "r", "p", "v", "c", "n", "0", "12", "999", "007",
            "((((k))))", "(k<s)<r", "k<(s<r)", "(k=s)=(r=p)", "--k", "k--s", "k*-s", "-(k)",
            "-----------------------------k", "(k)+(s)", "((k)+(s))*(r)", "1+2-3*4/5<6", "(1)",
            "(k<1)+(k<2)", "((k<1)<(k<2))"};
        for (String text : right) {
            Check.that("rule() of " + text, rule(x, text), 0);
        }
        String[] wrong = {"+k", "k+", "k k", "1234", "k<s<r", "k<s=r", "k<>s", "k<=s", "(((((k",
            "(k", "k)", "()", "-", "k-", "k*/s", "2k", "k2", "K", "k(s)", "a", "(k)2", "(k)k",
            "12(", "k~s", "~k", "k+(", "k+(s", "k<", "(k<s<r)", "k+s)", "(k)(s)", "((((k)", ")",
            "*k", "/k", "<k", "=", "k<s+(r<p<v)", "(k<s)<r<p", "k\u0080",
            "1+1234", "k:", "/", ":", "k+*", "k<1+(2>3)=4"};
        int[] at = {0, 2, 1, 3, 3, 3, 2, 2, 4, 2, 1, 1, 1, 2, 2, 1, 1, 0, 1, 0, 3, 3, 2, 1, 0, 3,
            4, 2, 4, 3, 3, 6, 0, 0, 0, 0, 0, 8, 7, 1, 5, 1, 0, 0, 2, 9};
        for (int i = 0; i < wrong.length; i++) {
            Check.that("rule() of " + wrong[i], rule(x, wrong[i]), -1 - at[i]);
        }
    }

    private static void promise5Limits() {
        StreamersHeld x = new StreamersHeld();
        String sums = "k+k+k+k+k+k+k+k+k+k+k+k+k+k+k+k+k+k+k+k+k+k+k+k+k+k+k+k+k";
        Check.that("39 signs", rule(x, sums.substring(0, 39)), 0);
        Check.that("40 signs, could go on", rule(x, sums.substring(0, 40)), -41);
        Check.that("41 signs, could be one", rule(x, sums.substring(0, 41)), -41);
        Check.that("57 signs", rule(x, sums), -41);
        Check.that("40 signs", rule(x, "-" + sums.substring(0, 39)), 0);
        Check.that("41 signs, 40 could end", rule(x, "-" + sums.substring(0, 40)), -41);
        Check.that("41 signs, the last one wrong", rule(x, "-" + sums.substring(0, 39) + "k"), -41);
        Check.that("41 signs, 39 wrong", rule(x, sums.substring(0, 39) + "k+"), -40);
        Check.that("41 signs, 2 wrong", rule(x, "kk" + sums.substring(0, 39)), -2);
        Check.that("40 of -", rule(x, "-".repeat(40)), -41);
        Check.that("39 of - and k", rule(x, "-".repeat(39) + "k"), 0);
        x = Check.of("p50304", "s+7");
        Check.that("refused", rule(x, "s+"), -3);
        Check.that("the rule stays", x.streamer(0, 8), 112);
        Check.that("none", rule(x, ""), 0);
        Check.that("is k", x.streamer(0, 8), 96);
    }

    private static void promise5Values() {
        StreamersHeld x = Check.of("p50304;p71015;g90002", "0");
        Check.that("hours(2)", x.hours(2), 5);
        String[] rules = {"k", "", "s", "r", "p", "v", "c", "n", "s-r-k", "s-(r-k)", "s+r*p",
            "(s+r)*p", "s*r/p", "s/r*p", "s/0", "s/(r-3)", "-s/r", "0-s/r", "-(s+r)", "--s",
            "---s", "s--r", "s<r", "r<s", "s<s", "s>r", "r>s", "s>s", "s=5", "s=r", "s+1>r*2",
            "s+2>r*2", "(s>r)+(r>k)", "2-3<0", "99", "99*2", "100", "-99", "0-99*2", "-100",
            "999*999*999*999", "999*999*999*999*0+7", "007", "-s*-r", "s*-r", "10-2-3", "24/4/2",
            "24/4*2", "2*3+4*5", "(2<3)*7", "-(2<3)", "((((s)+1)+1)+1)", "-(-(-(s)))",
            "0-7/2", "(0-7)/2", "(0-7)/-2", "3=1+2", "1+2=3", "3*0=0", "-2<-1", "s*(k=1)-r*(k=2)",
            "999-950", "0-999+950"};
        int[] pulls = {1, 1, 5, 3, 4, 3, 1, 2, 1, 3, 17, 32, 3, 4, 0, 0, -1, -1, -8, 5, -5, 8, 0, 1,
            0, 1, 0, 0, 1, 0, 0, 1, 2, 1, 99, 99, 99, -99, -99, -99, -99, 7, 7, 15, -15, 5, 3, 12,
            26, 7, -1, 8, -5, -3, -3, 3, 1, 1, 1, 1, 5, 49, -49};
        for (int i = 0; i < rules.length; i++) {
            Check.that("rule() of " + rules[i], rule(x, rules[i]), 0);
            Check.that("PULL by " + rules[i], x.streamer(0, 8), 100 + pulls[i]);
        }
        rule(x, "k*10+c");
        Check.that("of the second", x.streamer(1, 8), 100 - 19);
        Check.that("of the third", x.streamer(2, 8), 130);
        x.drops(0);
        Check.that("of one that is dropped", x.streamer(0, 8), 111);
        Check.that("of the other of its COLOUR", x.streamer(1, 8), 80);
    }

    private static void promise6() {
        StreamersHeld x = Check.of("p50304;p71015;g90002", "0");
        x.hours(2);
        int[] want = {0, 7, 8, 1, 5, 2, 0, 19998, 100};
        for (int what = 0; what < want.length; what++) {
            Check.that("streamer(1, " + what + ")", x.streamer(1, what), want[what]);
        }
        Check.that("-1", Check.streamerThrows(x, -1, 0), true);
        Check.that("3 of 3", Check.streamerThrows(x, 3, 0), true);
        Check.that("7", Check.streamerThrows(x, 7, 0), true);
        Check.that("MAX", Check.streamerThrows(x, Integer.MAX_VALUE, 0), true);
        Check.that("what -1", Check.streamerThrows(x, 0, -1), true);
        Check.that("what 9", Check.streamerThrows(x, 0, 9), true);
        Check.that("what 8", Check.streamerThrows(x, 2, 8), false);
        x.drops(1);
        Check.that("DROPPED", x.streamer(1, 6), 1);
        rule(x, "99");
        x.hours(1);
        Check.that("BROKEN", x.streamer(0, 6), 2);
        Check.that("DROPPED yet", x.streamer(1, 6), 1);
        x.drops(1);
        Check.that("taken up", x.streamer(1, 6), 0);
    }

    private static void strengths(String what, StreamersHeld x, int a, int b, int c) {
        Check.that(what, x.streamer(0, 1) * 100 + x.streamer(1, 1) * 10 + x.streamer(2, 1),
            a * 100 + b * 10 + c);
    }

    private static void promise7() {
        StreamersHeld x = Check.of("p50304;p71015;g90002", "0");
        int[][] sheets = {{0, 3, 5, 1}, {0, 3, 255, 0}, {0, 3, 258, 0}, {0, 2, 127, 1},
            {1, 3, 65541, 0}, {1, 3, 32767, 1}, {1, 3, 258, -256}, {2, 3, 65541, 0}, {2, 3, 258, 0},
            {2, 3, 2, 3}, {2, 3, 9, -9}, {2, 1, 8, 0}, {2, 7, 4, 0}, {2, 0, 4, 0},
            {2, 2, Integer.MAX_VALUE, 1}, {2, 3, 4, Integer.MIN_VALUE}, {0, 3, -250, 0}};
        int[][] want = {{5, 6, 7}, {1, 1, 1}, {2, 2, 2}, {9, 1, 1}, {5, 5, 5}, {9, 1, 1}, {9, 2, 1},
            {9, 9, 9}, {9, 9, 9}, {2, 5, 8}, {9, 1, 1}, {8, 1, 1}, {4, 4, 4}, {1, 1, 1}, {9, 1, 1},
            {4, 1, 4}, {6, 6, 6}};
        for (int i = 0; i < sheets.length; i++) {
            int[] s = sheets[i];
            String what = "sheet " + i;
            Check.that(what, x.sheet(s[0], s[1], s[2], s[3]), want[i][0] + want[i][1] + want[i][2]);
            strengths(what, x, want[i][0], want[i][1], want[i][2]);
        }
        Check.that("n below 0", x.sheet(0, -1, 9, 0), -2);
        Check.that("n below 0", x.sheet(2, Integer.MIN_VALUE, 9, 0), -2);
        Check.that("n 8", x.sheet(1, 8, 9, 0), -1);
        Check.that("n 8, missing", x.sheet(3, 8, 9, 0), -1);
        Check.that("kind 4, n below 0", x.sheet(4, -1, 9, 0), -1);
        Check.that("kind -1", x.sheet(-1, 1, 9, 0), -1);
        strengths("nothing changes", x, 6, 6, 6);
        x.hours(1);
        Check.that("missing", x.sheet(3, 3, 9, 0), -3);
        strengths("all 1", x, 1, 1, 1);
        Check.that("one act can be undone", x.undo(), 0);
        strengths("the sheet can't", x, 1, 1, 1);
        x.sheet(2, 3, 5, 0);
        Check.that("missing, n below 0", x.sheet(3, -5, 9, 0), -3);
        strengths("all 1", x, 1, 1, 1);
        Check.that("no STREAMERS", new StreamersHeld().sheet(2, 3, 5, 0), 0);
    }

    private static void promise50And51() {
        StreamersHeld x = Check.of("p50304;p71015;g90002", "0");
        Check.that("keep(-1)", x.keep(-1), false);
        Check.that("keep(3)", x.keep(3), false);
        Check.that("again(0), nothing kept", x.again(0), false);
        Check.that("keep(0)", x.keep(0), true);
        x.hours(2);
        x.drops(2);
        x.speed(7);
        Check.that("keep(2)", x.keep(2), true);
        x.runs(0, 9);
        x.rates(0, 5);
        x.reels(0, 5);
        x.sheet(2, 3, 2, 1);
        Check.that("four and two can be undone", x.count(10), 6);
        Check.that("again(1)", x.again(1), false);
        Check.that("again(-1)", x.again(-1), false);
        Check.that("again(3)", x.again(3), false);
        Check.that("six yet", x.count(10), 6);
        Check.that("again(2)", x.again(2), true);
        Check.that("nothing can be undone", x.count(10), 0);
        Check.that("undo()", x.undo(), -1);
        int[] want = {0, 2, 3, 0, 4, 0, 0};
        for (int what = 0; what < want.length; what++) {
            Check.that("as kept, " + what, x.streamer(0, what), want[what]);
        }
        Check.that("WAY", x.count(2), 5);
        Check.that("SPEED", x.count(3), 7);
        Check.that("HOUR", x.count(4), 2);
        Check.that("which HOLD", x.count(1), 3);
        Check.that("again(0)", x.again(0), true);
        Check.that("WAY", x.count(2), 0);
        Check.that("SPEED", x.count(3), 3);
        Check.that("HOUR", x.count(4), 0);
        Check.that("REELS", x.count(6), 13);
        Check.that("again(2) once more", x.again(2), true);
        Check.that("a wrong text", Check.put(x, "p").streamers(), -2);
        Check.that("again(0), none came", x.again(0), true);
        Check.that("an empty text", x.streamers(), 0);
        Check.that("again(2), none came", x.again(2), true);
        Check.that("one comes", Check.put(x, "y11111").streamers(), 1);
        Check.that("again(0), one came", x.again(0), false);
        Check.that("again(2), one came", x.again(2), false);
        Check.that("WAY stays", x.count(2), 5);
        Check.that("keep(2) anew", x.keep(2), true);
        Check.that("again(0)", x.again(0), false);
        Check.that("again(2)", x.again(2), true);
    }

    private static void promise52() {
        StreamersHeld x = Check.of("p50304;p71015;g90002", "99*(n=1)*(s=7)");
        x.hours(3);
        x.drops(0);
        x.seen(1, 4, 1);
        x.saw(2, 3, 0);
        x.saw(2, 3, 0);
        x.heard(2, 1);
        x.heard(2, 1);
        x.heard(2, 1);
        x.sign(0);
        x.end(3);
        int[] want = {3, 4, 6, 3, 3, 2, 11, 1, 2, 3, 2, 2, 3};
        for (int what = 0; what < want.length; what++) {
            Check.that("count(" + what + ")", x.count(what), want[what]);
        }
        Check.that("count(-1)", x.count(-1), -100);
        Check.that("count(13)", x.count(13), -100);
        Check.that("count(MIN)", x.count(Integer.MIN_VALUE), -100);
    }

    private static void promise53() {
        StreamersHeld x = Check.of(SEVEN, "99");
        Check.that("order()", x.order(), 7);
        Check.row("order()", x, 0, 1, 2, 3, 4, 5, 6);
        Check.that("row(MAX)", Check.rowThrows(x, Integer.MAX_VALUE), true);
        Check.that("row(MIN)", Check.rowThrows(x, Integer.MIN_VALUE), true);
        x.fits();
        Check.row("fits()", x, 7);
    }
}
