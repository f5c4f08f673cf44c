/** Promises 1 to 7, sentence by sentence: their boundary cases. */
public final class Promises1To7Test {
    private static final String SEVEN = "p10000;g20111;b30222;y40333;p50444;g60555;b70666";

    public static void main(String[] args) throws Exception {
        Check.all(Promises1To7Test.class);
    }

    static void p1NewObject() {
        Check.promise(1, "No STREAMERS; WAY is 0, SPEED 3.");
        StreamersHeld x = new StreamersHeld();
        Check.that("STREAMERS", x.count(0), 0);
        Check.that("streamer(0, 0)", Check.streamerThrows(x, 0, 0), true);
        Check.that("WAY", x.count(2), 0);
        Check.that("SPEED", x.count(3), 3);
        for (int what : new int[] {1, 4, 5, 6, 7, 8, 9, 10, 11, 12}) {
            Check.that("count(" + what + ")", x.count(what), 0);
        }
        Check.that("goes 3", x.hours(1), 3);
        Check.that("another new one", new StreamersHeld().count(2), 0);
    }

    // ---- sign, end

    static void p2FourSigns() {
        Check.promise(2, "Four signs come behind THE TEXT, of v the highest byte first: how many "
            + "it has.");
        StreamersHeld x = new StreamersHeld();
        Check.that("four", x.sign('k' << 24 | '+' << 16 | '9' << 8 | '8'), 4);
        Check.that("all four can stand", x.rule(), 0);
        Check.put(x, "p10000").streamers();
        Check.that("k and 98", x.streamer(0, 8), 198);
        int[] texts = {'s' << 24, 's' << 16, 's' << 8, 's'};
        for (int i = 0; i < texts.length; i++) {
            x.end(0);
            x.sign(texts[i]);
            x.end(i + 1);
            Check.that("s stands at " + i, x.rule(), i == 0 ? 0 : -1);
        }
        x.sign('s' << 24 | '+' << 16);
        x.end(2);
        Check.that("behind the first two", x.sign('1' << 24 | '+' << 16 | 'r' << 8), 6);
        x.end(5);
        Check.that("s+1+r", x.rule(), 0);
        Check.that("1 and 1 and 0", x.streamer(0, 8), 102);
        Check.that("the highest bit is no sign of less", x.sign(0x80808080), 4);
        Check.that("-1", x.sign(-1), 8);
    }

    static void p2NotMoreThan80() {
        Check.promise(2, "Refused: there would be more than 80.");
        for (int has = 70; has <= 80; has++) {
            StreamersHeld x = new StreamersHeld();
            for (int i = 0; i < 20; i++) {
                x.sign('1' << 24 | '1' << 16 | '1' << 8 | '1');
            }
            x.end(has);
            boolean can = has <= 76;
            Check.that("behind " + has, x.sign(7), can ? has + 4 : -1);
            Check.that("THE TEXT behind " + has, x.count(12), can ? has + 4 : has);
        }
    }

    static void p3FirstSigns() {
        Check.promise(3, "THE TEXT has its first n signs alone: true");
        StreamersHeld x = Check.put(new StreamersHeld(), "s+1+");
        Check.that("all four", x.end(4), true);
        Check.that("three", x.end(3), true);
        Check.that("have three", x.count(12), 3);
        Check.that("s+1", x.rule(), 0);
        Check.put(x, "s+1+");
        Check.that("none", x.end(0), true);
        Check.that("has none", x.count(12), 0);
        Check.that("none of none", x.end(0), true);
        Check.put(x, "1".repeat(80));
        Check.that("80 of 80", x.end(80), true);
        Check.that("79 of 80", x.end(79), true);
        Check.that("has 79", x.count(12), 79);
    }

    static void p3NotSoMany() {
        Check.promise(3, "false if it has not so many, or n is below 0.");
        StreamersHeld x = new StreamersHeld();
        Check.that("1 of none", x.end(1), false);
        Check.put(x, "s+1");
        for (int n : new int[] {4, 5, 80, 81, Integer.MAX_VALUE, -1, -3, Integer.MIN_VALUE}) {
            Check.that("end(" + n + ") of three", x.end(n), false);
            Check.that("three yet", x.count(12), 3);
        }
        x.end(2);
        Check.that("what is gone is gone", x.end(3), false);
        Check.put(x, "1".repeat(80));
        Check.that("81 of 80", x.end(81), false);
    }

    // ---- streamers

    private static int streamers(StreamersHeld x, String text) {
        return Check.put(x, text).streamers();
    }

    /** With so many STREAMERS there already. */
    private static StreamersHeld with(int many) {
        return Check.of(many == 0 ? "" : SEVEN.substring(0, 7 * many - 1), "");
    }

    static void p4EmptyText() {
        Check.promise(4, "(an empty one: nothing)");
        for (int many : new int[] {0, 1, 7}) {
            StreamersHeld x = with(many);
            x.keep(2);
            x.hours(1);
            String was = Check.state(x);
            Check.that("to " + many, streamers(x, ""), 0);
            Check.that("nothing", Check.state(x), was);
            Check.that("undo()", x.undo(), 0);
            Check.that("again()", x.again(2), true);
        }
    }

    static void p4HowManyLines() {
        Check.promise(4, "THE TEXT tells of STREAMERS (an empty one: nothing): how many LINES.");
        for (int many = 1; many <= 7; many++) {
            for (int there = 0; there + many <= 7; there++) {
                StreamersHeld x = with(there);
                Check.that(many + " to " + there, streamers(x, SEVEN.substring(0, 7 * many - 1)),
                    many);
                Check.that("together", x.count(0), there + many);
                Check.that("the last one", x.streamer(there + many - 1, 1), many);
            }
        }
    }

    static void p4SignCantStand() {
        Check.promise(4, "-1 - p: the sign at p can't stand there");
        String two = "p93052;y10099";
        for (int p = 0; p < two.length(); p++) {
            for (char sign : new char[] {'x', 'P', ' ', 0, 255}) {
                StreamersHeld x = new StreamersHeld();
                String wrong = two.substring(0, p) + sign + two.substring(p + 1);
                Check.that("sign " + (int) sign + " at " + p, streamers(x, wrong), -1 - p);
                Check.that("and one behind it", streamers(x, wrong + "x"), -1 - p);
            }
        }
        Check.that("the first of two", streamers(new StreamersHeld(), "p9x0x2"), -3);
    }

    static void p4EndsTooEarly() {
        Check.promise(4, "its end, if it ends too early");
        String three = "p93052;y10099;g50505";
        for (int n = 1; n < three.length(); n++) {
            boolean whole = n % 7 == 6;
            Check.that("the first " + n, streamers(new StreamersHeld(), three.substring(0, n)),
                whole ? (n + 1) / 7 : -1 - n);
        }
        for (int n = 42; n < 48; n++) {
            Check.that("the first " + n + " of seven",
                streamers(new StreamersHeld(), SEVEN.substring(0, n)), -1 - n);
        }
    }

    static void p4NoRoom() {
        Check.promise(4, "the first sign of a LINE for which there is no room");
        for (int there = 1; there <= 7; there++) {
            int room = 7 - there;
            StreamersHeld x = with(there);
            int due = -1 - 7 * room;
            Check.that("one too many", streamers(x, SEVEN.substring(0, 7 * room + 6)), due);
            Check.that("its first sign alone", streamers(x, SEVEN.substring(0, 7 * room + 1)), due);
            Check.that("that could not be one", streamers(x, SEVEN.substring(0, 7 * room) + "?"),
                due);
            Check.that("that ends there", streamers(x, SEVEN.substring(0, 7 * room) + ";"), due);
            if (room > 0) {
                Check.that("; behind the last one", streamers(x, SEVEN.substring(0, 7 * room)), due);
                Check.that("wrong ahead of it",
                    streamers(x, "p0" + SEVEN.substring(2, 7 * room + 6)), -2);
            }
            Check.that("none came", x.count(0), there);
        }
    }

    static void p4More() {
        Check.promise(4, "48, if it has more and the first 48 could go on or end");
        Check.that("48", streamers(with(0), SEVEN), 7);
        for (String more : new String[] {";", "p", "?", ";p", ";p10000"}) {
            StreamersHeld x = with(0);
            Check.that("48 and " + more, streamers(x, SEVEN + more), -49);
            Check.that("none came", x.count(0), 0);
        }
        Check.that("80", streamers(with(0), (SEVEN + ";" + SEVEN).substring(0, 80)), -49);
        for (int p = 0; p < 48; p++) {
            String wrong = SEVEN.substring(0, p) + "?" + SEVEN.substring(p + 1) + ";";
            Check.that("49, wrong at " + p, streamers(with(0), wrong), -1 - p);
        }
        Check.that("49, room for six", streamers(with(1), SEVEN + ";"), -43);
    }

    static void p4NothingOfIt() {
        Check.promise(4, "Nothing of it comes, if a LINE can't.");
        StreamersHeld x = with(2);
        x.keep(1);
        x.hours(1);
        String was = Check.state(x);
        String[] texts = {"p93052;y00000", "p93052;y1", "p93052;", "p93052;y10099;?", SEVEN};
        int[] at = {8, 9, 7, 14, 35};
        for (int i = 0; i < texts.length; i++) {
            Check.that(texts[i], streamers(x, texts[i]), -1 - at[i]);
            Check.that(texts[i] + ": nothing", Check.state(x), was);
        }
        Check.that("undo() yet", x.undo(), 0);
        Check.that("again() yet", x.again(1), true);
    }

    // ---- rule

    private static int rule(StreamersHeld x, String text) {
        return Check.put(x, text).rule();
    }

    static void p5EmptyText() {
        Check.promise(5, "THE TEXT is THE RULE (an empty one: none): 0.");
        StreamersHeld x = Check.of("p90009", "s");
        Check.that("STRENGTH", x.streamer(0, 8), 109);
        Check.that("an empty one", rule(x, ""), 0);
        Check.that("LACK", x.streamer(0, 8), 91);
        Check.that("another", rule(x, "r+5"), 0);
        Check.that("REEL and 5", x.streamer(0, 8), 105);
    }

    static void p5ReadAnew() {
        Check.promise(5, "THE TEXT is THE RULE");
        String[] ahead = {"s<9", "(s<9)<(9<s)", "-", "--(", "k<(s", "((((", "12", "1<-(", "k+s*",
            "(s", "9)", "k<s<r"};
        for (String text : ahead) {
            StreamersHeld x = Check.of("p90009", "");
            Check.put(x, text).rule();
            Check.that("s<10 behind " + text, rule(x, "s<10"), 0);
            Check.that("PULL", x.streamer(0, 8), 101);
            Check.put(x, text).law();
            Check.that("((((s))))-2<7 behind " + text, rule(x, "((((s))))-2<7"), 0);
            Check.that("PULL", x.streamer(0, 8), 100);
            Check.put(x, text).rule();
            Check.that("none behind " + text, rule(x, ""), 0);
            Check.that("PULL", x.streamer(0, 8), 91);
        }
    }

    static void p5EndsTooEarly() {
        Check.promise(5, "-1 - p: the sign at p can't stand there (its end, if it ends too early;");
        String whole = "-(k+12)*(s<(r-p))/v";
        StreamersHeld x = Check.of("p90009", "s");
        for (int n = 1; n < whole.length(); n++) {
            String text = whole.substring(0, n);
            boolean can = n == 7 || n == 17;
            int answer = Check.put(new StreamersHeld(), text).rule();
            Check.that("rule() of " + text, answer, can ? 0 : -1 - n);
            if (!can) {
                rule(x, text);
                Check.that("THE RULE stays", x.streamer(0, 8), 109);
            }
        }
        for (int p = 0; p < whole.length(); p++) {
            String wrong = whole.substring(0, p) + "?" + whole.substring(p + 1);
            Check.that("rule() of " + wrong, rule(new StreamersHeld(), wrong), -1 - p);
        }
        Check.that("THE RULE stays", x.streamer(0, 8), 109);
    }

    static void p5More() {
        Check.promise(5, "40, if it has more and the first 40 could go on or end");
        String[] forty = {"-" + "k+".repeat(19) + "k", "k+".repeat(20), "-".repeat(40),
            "k+".repeat(19) + "k-", "k+".repeat(18) + "k+((", "k*".repeat(18) + "k+99",
            "k+".repeat(17) + "(k)+(k"};
        for (int i = 0; i < forty.length; i++) {
            StreamersHeld x = Check.of("p90009", "s");
            Check.that("40 signs: " + forty[i], forty[i].length(), 40);
            for (String more : new String[] {"k", "+k", "?", ")", "9"}) {
                Check.that(forty[i] + more, rule(x, forty[i] + more), -41);
            }
            Check.that("THE RULE stays", x.streamer(0, 8), 109);
            Check.that("40: " + forty[i], rule(x, forty[i]), i == 0 || i == 5 ? 0 : -41);
        }
        StreamersHeld x = new StreamersHeld();
        Check.that("wrong at 39", rule(x, "-" + "k+".repeat(19) + "?k"), -40);
        Check.that("wrong at 0", rule(x, "?" + "k+".repeat(20)), -1);
        Check.that("80", rule(x, "k+".repeat(40)), -41);
    }

    // ---- streamer

    /** One BROKEN, one DROPPED, one that HOLDS behind two HOURS; WAY is 6. */
    private static StreamersHeld three() {
        StreamersHeld x = Check.of("p19834;g20715;b30009", "2*(s=1)+c");
        x.drops(1);
        x.hours(2);
        return x;
    }

    static void p6What() {
        Check.promise(6, "Of a STREAMER, what 0: COLOUR, 1: STRENGTH, 2: REEL, 3: RATE, 4: PLACE, "
            + "5: LENGTH");
        int[][] want = {{0, 1, 95, 3, 4, 3}, {1, 2, 7, 1, 5, 0}, {2, 3, 0, 0, 9, 0}};
        StreamersHeld x = three();
        for (int i = 0; i < 3; i++) {
            for (int what = 0; what <= 5; what++) {
                Check.that("streamer(" + i + ", " + what + ")", x.streamer(i, what), want[i][what]);
            }
        }
    }

    static void p6Fate() {
        Check.promise(6, "6: 0 it HOLDS, 1 it is DROPPED (not BROKEN), 2 it is BROKEN");
        StreamersHeld x = three();
        Check.that("BROKEN", x.streamer(0, 6), 2);
        Check.that("DROPPED", x.streamer(1, 6), 1);
        Check.that("HOLDS", x.streamer(2, 6), 0);
        x.drops(1);
        Check.that("taken up", x.streamer(1, 6), 0);
    }

    static void p6Lack() {
        Check.promise(6, "7: 20000 and LACK");
        StreamersHeld x = three();
        Check.that("WAY", x.count(2), 6);
        Check.that("of the BROKEN one", x.streamer(0, 7), 20000 + 6 - 4 - 3);
        Check.that("of the DROPPED one", x.streamer(1, 7), 20000 + 6 - 5);
        Check.that("below 0", x.streamer(2, 7), 20000 - 3);
        x = Check.of("p10009;p10000", "0");
        Check.that("-9", x.streamer(0, 7), 19991);
        Check.that("0", x.streamer(1, 7), 20000);
    }

    static void p6Pull() {
        Check.promise(6, "8: 100 and PULL (whether it HOLDS or not).");
        StreamersHeld x = three();
        Check.that("of the BROKEN one", x.streamer(0, 8), 102);
        rule(x, "0-s*50");
        int[] pulls = {-50, -99, -99};
        for (int i = 0; i < 3; i++) {
            Check.that("PULL of " + i, x.streamer(i, 8), 100 + pulls[i]);
        }
        rule(x, "99*s");
        Check.that("99 at most", x.streamer(1, 8), 199);
    }

    static void p6NoneSuch() {
        Check.promise(6, "NoSuchElementException: none such, another what.");
        StreamersHeld x = three();
        for (int what = 0; what <= 8; what++) {
            for (int i : new int[] {-1, 3, 6, 7, Integer.MIN_VALUE, Integer.MAX_VALUE}) {
                Check.that("streamer(" + i + ", " + what + ")", Check.streamerThrows(x, i, what),
                    true);
            }
            Check.that("there is one", Check.streamerThrows(x, 2, what), false);
        }
        for (int what : new int[] {-1, 9, 10, Integer.MIN_VALUE, Integer.MAX_VALUE}) {
            Check.that("streamer(0, " + what + ")", Check.streamerThrows(x, 0, what), true);
            Check.that("neither", Check.streamerThrows(x, 3, what), true);
        }
    }

    // ---- sheet

    private static String sheet(int kind, int n, int f, int step) {
        StreamersHeld x = Check.of("p90000;g90000;b90000", "");
        StringBuilder told = new StringBuilder();
        told.append(x.sheet(kind, n, f, step)).append(':');
        for (int i = 0; i < 3; i++) {
            told.append(' ').append(x.streamer(i, 1));
        }
        return told.toString();
    }

    static void p7Entries() {
        Check.promise(7, "of n entries f, f + step, ..");
        Check.that("2, 4, 6", sheet(2, 3, 2, 2), "12: 2 4 6");
        Check.that("6, 4, 2", sheet(1, 3, 6, -2), "12: 6 4 2");
        Check.that("5, 5, 5", sheet(0, 3, 5, 0), "15: 5 5 5");
        Check.that("ints go round", sheet(2, 3, Integer.MAX_VALUE, 7), "11: 9 1 1");
        Check.that("twice round", sheet(2, 3, 3, Integer.MIN_VALUE), "7: 3 1 3");
    }

    static void p7LowestBits() {
        Check.promise(7, "(of bytes, shorts the lowest bits, with their sign; put to 1 .. 9)");
        int[] f = {0, 1, 9, 10, 127, 128, 255, 256, 257, 265, 32767, 32768, 65535, 65536, 65541,
            -1, -128, -129, -251, -65531, Integer.MIN_VALUE, Integer.MAX_VALUE, 0x7fff8005};
        int[] asByte = {1, 1, 9, 9, 9, 1, 1, 1, 1, 9, 1, 1, 1, 1, 5, 1, 1, 9, 5, 5, 1, 1, 5};
        int[] asShort = {1, 1, 9, 9, 9, 9, 9, 9, 9, 9, 9, 1, 1, 1, 5, 1, 1, 1, 1, 5, 1, 1, 1};
        int[] asInt = {1, 1, 9, 9, 9, 9, 9, 9, 9, 9, 9, 9, 9, 9, 9, 1, 1, 1, 1, 1, 1, 9, 9};
        StreamersHeld x = Check.of("p50000", "");
        for (int i = 0; i < f.length; i++) {
            Check.that("byte " + f[i], x.sheet(0, 1, f[i], 0), asByte[i]);
            Check.that("STRENGTH", x.streamer(0, 1), asByte[i]);
            Check.that("short " + f[i], x.sheet(1, 1, f[i], 0), asShort[i]);
            Check.that("int " + f[i], x.sheet(2, 1, f[i], 0), asInt[i]);
        }
        for (int v = 1; v <= 9; v++) {
            Check.that("as it is", x.sheet(v % 3, 1, v, 0), v);
        }
    }

    static void p7ThoseBehind() {
        Check.promise(7, "those behind it have 1: the sum of all.");
        Check.that("none", sheet(2, 0, 7, 0), "3: 1 1 1");
        Check.that("one", sheet(2, 1, 7, 0), "9: 7 1 1");
        Check.that("two", sheet(2, 2, 7, 0), "15: 7 7 1");
        Check.that("three", sheet(2, 3, 7, 0), "21: 7 7 7");
        Check.that("seven", sheet(2, 7, 7, 0), "21: 7 7 7");
        Check.that("no STREAMERS", new StreamersHeld().sheet(2, 7, 7, 0), 0);
        StreamersHeld x = Check.of("p90000;p90000;p90000;p90000;p90000;p90000;p90000", "9");
        x.hours(1);
        Check.that("of BROKEN ones, too", x.sheet(0, 7, 9, 0), 63);
    }

    static void p7CantBeUndone() {
        Check.promise(7, "Can't be undone.");
        StreamersHeld x = Check.of("p90000;g90000", "0");
        x.hours(1);
        x.keep(0);
        x.sheet(2, 2, 3, 1);
        Check.that("one act", x.count(10), 1);
        Check.that("undo() of the act", x.undo(), 0);
        Check.that("STRENGTH stays", x.streamer(0, 1) * 10 + x.streamer(1, 1), 34);
        Check.that("WAY", x.count(2), 0);
        Check.that("undo()", x.undo(), -1);
        x.again(0);
        Check.that("STRENGTH stays", x.streamer(0, 1) * 10 + x.streamer(1, 1), 34);
    }

    static void p7BelowZero() {
        Check.promise(7, "-2: n below 0 (of kinds 0 .. 2; nothing changes)");
        for (int kind = 0; kind <= 2; kind++) {
            Check.that("n -1 of kind " + kind, sheet(kind, -1, 5, 0), "-2: 9 9 9");
            Check.that("n least", sheet(kind, Integer.MIN_VALUE, 5, 0), "-2: 9 9 9");
        }
    }

    static void p7Missing() {
        Check.promise(7, "-3: missing (all 1).");
        for (int n : new int[] {-1, 0, 1, 7, Integer.MIN_VALUE}) {
            Check.that("n " + n, sheet(3, n, 5, 0), "-3: 1 1 1");
        }
        Check.that("no STREAMERS", new StreamersHeld().sheet(3, 0, 0, 0), -3);
    }

    static void p7NoneFirst() {
        Check.promise(7, "NONE: another kind, n above 7 (these first).");
        for (int n : new int[] {-1, 0, 3, 7, 8}) {
            Check.that("kind 4", sheet(4, n, 5, 0), "-1: 9 9 9");
            Check.that("kind -1", sheet(-1, n, 5, 0), "-1: 9 9 9");
            Check.that("kind least", sheet(Integer.MIN_VALUE, n, 5, 0), "-1: 9 9 9");
            Check.that("kind most", sheet(Integer.MAX_VALUE, n, 5, 0), "-1: 9 9 9");
        }
        for (int kind = 0; kind <= 3; kind++) {
            Check.that("n 8", sheet(kind, 8, 5, 0), "-1: 9 9 9");
            Check.that("n most", sheet(kind, Integer.MAX_VALUE, 5, 0), "-1: 9 9 9");
        }
    }
}
