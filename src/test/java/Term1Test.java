/** Term 1, sentence by sentence: the text of STREAMERS, THE SHIP, THE RULE, An HOUR. */
public final class Term1Test {
    private static final String SEVEN = "p10000;g20111;b30222;y40333;p50444;g60555;b70666";
    /** A product that is the least int. */
    private static final String LEAST = "512*512*512*16";

    public static void main(String[] args) throws Exception {
        Check.all(Term1Test.class);
    }

    // ---- STREAMERS

    static void atMostSeven() {
        Check.term(1, "STREAMERS 0 .. (at most 7)");
        StreamersHeld x = new StreamersHeld();
        Check.that("seven come", Check.put(x, SEVEN).streamers(), 7);
        Check.that("seven", x.count(0), 7);
        Check.that("number 6 is the last one", x.streamer(6, 1), 7);
        Check.that("no number 7", Check.streamerThrows(x, 7, 1), true);
        Check.that("an eighth", Check.put(x, "y10000").streamers(), -1);
        Check.that("seven yet", x.count(0), 7);
    }

    /** What the text answers with another sign at p: for each of the 256 signs. */
    private static void eachSign(String text, int p, String good, int due) {
        for (int sign = 0; sign < 256; sign++) {
            String other = text.substring(0, p) + (char) sign + text.substring(p + 1);
            int answer = Check.put(new StreamersHeld(), other).streamers();
            boolean can = good.indexOf(sign) >= 0;
            Check.that("sign " + sign + " at " + p, answer, can ? due : -1 - p);
        }
    }

    static void colourByLetter() {
        Check.term(1, "a letter (p, g, b or y: COLOUR 0 .. 3)");
        eachSign("p10000", 0, "pgby", 1);
        eachSign("p10000;p10000", 7, "pgby", 2);
        for (int colour = 0; colour < 4; colour++) {
            StreamersHeld x = Check.of("pgby".charAt(colour) + "10000", "");
            Check.that("COLOUR of " + colour, x.streamer(0, 0), colour);
        }
    }

    static void strengthByDigit() {
        Check.term(1, "a digit (STRENGTH, not 0)");
        eachSign("p10000", 1, "123456789", 1);
        for (int strength = 1; strength <= 9; strength++) {
            StreamersHeld x = Check.of("p" + strength + "0000", "");
            Check.that("STRENGTH", x.streamer(0, 1), strength);
        }
    }

    static void reelByTwoDigits() {
        Check.term(1, "two digits (REEL)");
        eachSign("p10000", 2, "0123456789", 1);
        eachSign("p10000", 3, "0123456789", 1);
        for (int reel = 0; reel <= 99; reel++) {
            StreamersHeld x = Check.of("p1" + reel / 10 + reel % 10 + "00", "");
            Check.that("REEL", x.streamer(0, 2), reel);
        }
    }

    static void rateAndPlaceByDigits() {
        Check.term(1, "a digit (RATE), a digit (PLACE)");
        eachSign("p10000", 4, "0123456789", 1);
        eachSign("p10000", 5, "0123456789", 1);
        for (int digit = 0; digit <= 9; digit++) {
            StreamersHeld x = Check.of("p100" + digit + (9 - digit), "");
            Check.that("RATE", x.streamer(0, 3), digit);
            Check.that("PLACE", x.streamer(0, 4), 9 - digit);
        }
    }

    static void linesWithSemicolonBetween() {
        Check.term(1, "LINES with ; between, each one more");
        eachSign("p10000;p10000", 6, ";", 2);
        String[] wrong = {";p10000", "p10000;", "p10000;;p10000"};
        int[] at = {0, 7, 7};
        for (int i = 0; i < wrong.length; i++) {
            int answer = Check.put(new StreamersHeld(), wrong[i]).streamers();
            Check.that(wrong[i], answer, -1 - at[i]);
        }
        StreamersHeld x = Check.of("p10000;g20000", "");
        Check.put(x, "b30000").streamers();
        Check.that("one more", x.count(0), 3);
        Check.that("behind those there are", x.streamer(2, 0), 2);
    }

    static void textOf48() {
        Check.term(1, "a text of at most 48 signs");
        Check.that("48", Check.put(new StreamersHeld(), SEVEN).streamers(), 7);
        Check.that("49", Check.put(new StreamersHeld(), SEVEN + ";").streamers(), -49);
    }

    static void atFirstNeither() {
        Check.term(1, "LENGTH 0 .. 9999 (that is out; at first 0), BROKEN or not, DROPPED or not "
            + "(at first neither)");
        StreamersHeld x = Check.of("p19990;p19990", "9");
        x.hours(1);
        Check.put(x, "p19990").streamers();
        Check.that("LENGTH of the two", x.streamer(0, 5) + x.streamer(1, 5), 18);
        Check.that("the two are BROKEN", x.count(5), 3);
        Check.that("LENGTH of a new one", x.streamer(2, 5), 0);
        Check.that("a new one HOLDS", x.streamer(2, 6), 0);
        Check.that("it alone", x.count(1), 4);
    }

    static void shipAtFirst() {
        Check.term(1, "WAY 0 .. 9999 (how far she is from the quay; at first 0), SPEED 0 .. 9 "
            + "(at first 3). HOUR (at first 0).");
        StreamersHeld x = Check.of(SEVEN, "");
        Check.that("WAY", x.count(2), 0);
        Check.that("SPEED", x.count(3), 3);
        Check.that("HOUR", x.count(4), 0);
    }

    static void holds() {
        Check.term(1, "A STREAMER HOLDS, if it is neither BROKEN nor DROPPED.");
        StreamersHeld x = Check.of("p30000;p90000;p90000", "4");
        Check.that("all three", x.count(1), 7);
        x.drops(1);
        Check.that("not the DROPPED one", x.count(1), 5);
        x.hours(1);
        Check.that("not the BROKEN one", x.count(1), 4);
    }

    static void lack() {
        Check.term(1, "Its LACK is WAY less PLACE less LENGTH (below 0, too)");
        StreamersHeld x = Check.of("p19920;p10009;p15501", "0");
        Check.that("at 0", x.streamer(0, 7), 20000);
        Check.that("-9", x.streamer(1, 7), 20000 - 9);
        x.hours(2);
        Check.that("WAY", x.count(2), 6);
        Check.that("6 less 4", x.streamer(0, 7), 20002);
        Check.that("6 less 9", x.streamer(1, 7), 19997);
        Check.that("6 less 1", x.streamer(2, 7), 20005);
    }

    static void tautAtZero() {
        Check.term(1, "it is TAUT, if it HOLDS and LACK is 0 or more");
        StreamersHeld x = Check.of("p10002;p10003;p10004;p10003;p10000", "0");
        x.drops(3);
        x.hours(1);
        Check.that("LACK 1, 0, -1", x.drag(), 0);
        Check.row("LACK 1, 0, -1, one DROPPED", x, 1 + 2 + 16, 4);
        x = Check.of("p10000;p90000", "2");
        x.hours(1);
        Check.that("a BROKEN one", x.drag(), 1);
        Check.row("a BROKEN one is not TAUT", x, 2, 9);
    }

    static void dragByFive() {
        Check.term(1, "DRAG is STRENGTH of all that are TAUT, together, by 5 (cut).");
        String[] lines = {"p40000", "p50000", "p90000", "p90000;g10000", "p40000;g40000",
            "p40000;g40000;b40000;y20000", "p40000;g40000;b40000;y30000",
            "p90000;p90000;p90000;p90000;p90000;p90000;p90000"};
        int[] drags = {0, 1, 1, 2, 1, 2, 3, 12};
        for (int i = 0; i < lines.length; i++) {
            Check.that(lines[i], Check.of(lines[i], "0").drag(), drags[i]);
        }
    }

    // ---- THE RULE

    private static int rule(String text) {
        return Check.put(new StreamersHeld(), text).rule();
    }

    private static void refused(String text, int p) {
        Check.that("rule() of " + text, rule(text), -1 - p);
    }

    /** PULL by a rule: of STRENGTH 5, REEL 36, RATE 2, PLACE 1, LENGTH 4, behind two HOURS (WAY 6). */
    private static void pull(String text, int due) {
        StreamersHeld x = Check.of("p54021", "0");
        x.hours(1);
        x.hours(1);
        Check.that("rule() of " + text, Check.put(x, text).rule(), 0);
        Check.that("PULL by " + text, x.streamer(0, 8) - 100, due);
    }

    static void ruleOf40() {
        Check.term(1, "THE RULE is a text of at most 40 signs (at first none: k)");
        Check.that("40", rule("-".repeat(39) + "k"), 0);
        Check.that("41", rule("-".repeat(40) + "k"), -41);
        StreamersHeld x = new StreamersHeld();
        Check.put(x, "p50009").streamers();
        Check.that("at first LACK", x.streamer(0, 8), 100 - 9);
    }

    static void comparesBindLeast() {
        Check.term(1, "< > = bind least (two; 1 or 0;");
        String[] rules = {"1<2", "2<2", "3<2", "1>2", "2>2", "3>2", "1=2", "2=2", "3=2",
            "1+1<3", "3>1+1", "2*3=1+5", "4<2*2", "7-1=6", "-1<0", "0>-1", "1-2<0"};
        int[] pulls = {1, 0, 0, 0, 0, 1, 0, 1, 0, 1, 1, 1, 0, 1, 1, 1, 1};
        for (int i = 0; i < rules.length; i++) {
            pull(rules[i], pulls[i]);
        }
        for (char sign : "<>=".toCharArray()) {
            refused(sign + "2", 0);
            refused("2" + sign, 2);
        }
    }

    static void comparesNotBehindOther() {
        Check.term(1, "not one behind the other)");
        for (char one : "<>=".toCharArray()) {
            for (char other : "<>=".toCharArray()) {
                refused("1" + one + "2" + other + "3", 3);
                refused("1" + one + "2+3*4" + other + "3", 7);
                refused("(1" + one + "2" + other + "3)", 4);
                refused("1" + one + "(2)" + other + "3", 5);
                refused("1" + one + "(2" + other + "3)" + one + "4", 7);
                Check.that("in ( )", rule("(1" + one + "2)" + other + "3"), 0);
                Check.that("in ( )", rule("1" + one + "(2" + other + "3)"), 0);
                Check.that("in both", rule("(1" + one + "2)" + other + "(3" + one + "4)"), 0);
            }
        }
        pull("(1<2)=1", 1);
        pull("3>(2=2)", 1);
    }

    static void sumsFromTheLeft() {
        Check.term(1, "then + - (from the left)");
        pull("9-3-2", 4);
        pull("9-3+2", 8);
        pull("9+3-2", 10);
        pull("9-2*3", 3);
        pull("1-2-3-4", -8);
    }

    static void productsFromTheLeft() {
        Check.term(1, "then * / (from the left;");
        pull("24/4/2", 3);
        pull("24/4*2", 12);
        pull("7/2*2", 6);
        pull("2*7/4", 3);
        pull("1+2*3", 7);
        pull("2*3+1", 7);
    }

    static void byZero() {
        Check.term(1, "by 0: 0;");
        pull("7/0", 0);
        pull("0/0", 0);
        pull("-7/0", 0);
        pull("7/0+3", 3);
        pull("9/(r-36)", 0);
        pull("9/(2-2)*5", 0);
        pull("9/(1/2)", 0);
    }

    static void cutToZero() {
        Check.term(1, "cut to 0)");
        pull("7/2", 3);
        pull("-7/2", -3);
        pull("7/-2", -3);
        pull("-7/-2", 3);
        pull("-1/2", 0);
        pull("1/2", 0);
    }

    static void minusAheadOfAThing() {
        Check.term(1, "then - ahead of a thing (any many)");
        pull("-2+3", 1);
        pull("-2*3", -6);
        pull("2*-3", -6);
        pull("2--3", 5);
        pull("2---3", -1);
        pull("--5", 5);
        pull("-(2+3)", -5);
        pull("-(-(5))", 5);
        pull("4<-2", 0);
        pull("-".repeat(38) + "5", 5);
        pull("-".repeat(39) + "5", -5);
        refused("2-", 2);
        refused("-", 1);
        refused("-+2", 1);
        refused("-*2", 1);
    }

    static void minusBindsMost() {
        Check.term(1, "then - ahead of a thing (any many)");
        // of the least int alone it can be seen that - binds more than /: it is its own opposite
        pull("-(" + LEAST + ")/2", -99);
        pull("0-(" + LEAST + ")/2", 99);
    }

    static void numbers() {
        Check.term(1, "a NUMBER of 1 to 3 digits");
        pull("7", 7);
        pull("42", 42);
        pull("942-900", 42);
        pull("007", 7);
        pull("999-950", 49);
        pull("000", 0);
        refused("1234", 3);
        refused("0000", 3);
        refused("1+2345", 5);
        refused("-1234", 4);
        refused("(1234", 4);
    }

    static void fourInOneAnother() {
        Check.term(1, "an EXPRESSION in ( ) (at most 4 in one another)");
        pull("(7)", 7);
        pull("((((7))))", 7);
        pull("((((7))))+((((8))))", 15);
        pull("((((1)+2)+3)+4)*((((2))))", 20);
        pull("(((1)+((2))))", 3);
        refused("(((((", 4);
        refused("(((((7)))))", 4);
        refused("((((1))))+(((((2", 14);
        refused("((((1)+(2))+(((", 14);
        refused("(", 1);
        refused("()", 1);
        refused(")", 0);
        refused("(7))", 3);
        refused("((7)", 4);
    }

    static void things() {
        Check.term(1, "of a STREAMER: k LACK, s STRENGTH, r REEL, p PLACE, v SPEED");
        pull("k", 1);
        pull("s", 5);
        pull("r", 36);
        pull("p", 1);
        pull("v", 3);
        pull("c", 0);
        pull("n", 2);
    }

    static void signsThatCanStand() {
        Check.term(1, "things: a NUMBER of 1 to 3 digits");
        for (int sign = 0; sign < 256; sign++) {
            boolean digit = sign >= '0' && sign <= '9';
            boolean between = "<>=+-*/".indexOf(sign) >= 0;
            boolean name = "ksrpvcn".indexOf(sign) >= 0;
            boolean ahead = sign == '-' || sign == '(';
            int first = digit || name ? 0 : ahead ? -2 : -1;
            String s = "" + (char) sign;
            Check.that("sign " + sign + " alone", rule(s), first);
            Check.that("sign " + sign + " behind k", rule("k" + s), between ? -3 : -2);
            Check.that("sign " + sign + " behind 1", rule("1" + s), digit ? 0 : between ? -3 : -2);
            Check.that("sign " + sign + " behind (k", rule("(k" + s),
                sign == ')' ? 0 : between ? -4 : -3);
            Check.that("sign " + sign + " behind (k)", rule("(k)" + s), between ? -5 : -4);
            Check.that("sign " + sign + " behind (1)", rule("(1)" + s), between ? -5 : -4);
            Check.that("sign " + sign + " behind k+", rule("k+" + s),
                digit || name ? 0 : ahead ? -4 : -3);
        }
    }

    static void othersOfItsColour() {
        Check.term(1, "c how many others of its COLOUR HOLD");
        StreamersHeld x = Check.of("p50000;p50000;p60000;g50000;p40000", "c");
        Check.that("three others", x.streamer(0, 8), 103);
        Check.that("of green none", x.streamer(3, 8), 100);
        x.drops(1);
        Check.that("not the DROPPED one", x.streamer(0, 8), 102);
        Check.that("of the DROPPED one", x.streamer(1, 8), 103);
        Check.put(x, "5*(s=4)").rule();
        x.hours(1);
        Check.put(x, "c").rule();
        Check.that("not the BROKEN one", x.streamer(0, 8), 101);
        Check.that("of the BROKEN one", x.streamer(4, 8), 102);
        x = Check.of("p10000;p10000;p10000;p10000;p10000;p10000;p10000", "c");
        Check.that("six at most", x.streamer(6, 8), 106);
    }

    static void hourBySeven() {
        Check.term(1, "n HOUR by 7 (rest)");
        StreamersHeld x = Check.of("p90000", "n");
        for (int hour = 0; hour < 22; hour++) {
            Check.that("HOUR " + hour, x.streamer(0, 8), 100 + hour % 7);
            x.hours(1);
        }
    }

    static void asInts() {
        Check.term(1, "As ints, put to -99 .. 99: PULL.");
        pull("98", 98);
        pull("99", 99);
        pull("100", 99);
        pull("-98", -98);
        pull("-99", -99);
        pull("-100", -99);
        pull("999*999*999", 99);
        pull("999*999*999*3", -99);
        pull(LEAST, -99);
        pull(LEAST + "-1", 99);
        pull("-(" + LEAST + ")", -99);
        pull("(" + LEAST + ")/-1", -99);
        pull("(" + LEAST + ")*-1", -99);
        pull(LEAST + "*2", 0);
        pull(LEAST + "*2+7", 7);
        pull(LEAST + "-1<0", 0);
        pull("100*100-999*10", 10);
        pull("(100<101)+(99<100)", 2);
    }

    // ---- An HOUR

    static void asMuchAsRate() {
        Check.term(1, "of each that HOLDS as much of REEL as RATE, or all there is, goes out");
        StreamersHeld x = Check.of("p50430;p50330;p50230;p50030;p50400;p50490;p50430", "0");
        x.drops(6);
        x.hours(1);
        int[] out = {3, 3, 2, 0, 0, 4, 0};
        int[] left = {1, 0, 0, 0, 4, 0, 4};
        for (int i = 0; i < out.length; i++) {
            Check.that("LENGTH of " + i, x.streamer(i, 5), out[i]);
            Check.that("REEL of " + i, x.streamer(i, 2), left[i]);
        }
        x = Check.of("p59920", "9");
        x.hours(1);
        x.hours(5);
        Check.that("of a BROKEN one none", x.streamer(0, 5), 2);
        Check.that("REEL of a BROKEN one", x.streamer(0, 2), 97);
    }

    static void lengthAtMost() {
        Check.term(1, "LENGTH is so much more (9999 at most), REEL less");
        StreamersHeld x = Check.of("p99990", "0");
        for (int i = 0; i < 100; i++) {
            x.hours(11);
            x.reels(0, 99);
        }
        Check.that("LENGTH", x.streamer(0, 5), 9900);
        x.hours(10);
        x.rates(0, 8);
        x.hours(1);
        Check.that("9998", x.streamer(0, 5), 9998);
        x.rates(0, 1);
        x.hours(1);
        Check.that("9999", x.streamer(0, 5), 9999);
        x.reels(0, 9);
        x.rates(0, 4);
        x.hours(1);
        Check.that("not more", x.streamer(0, 5), 9999);
        Check.that("REEL is less all the same", x.streamer(0, 2), 5);
    }

    static void lessDragAsItIsThen() {
        Check.term(1, "WAY is more by SPEED less DRAG, as it is then (by 0, if DRAG is more than "
            + "SPEED;");
        StreamersHeld x = Check.of("p50110", "0");
        Check.that("TAUT ahead of it", x.drag(), 1);
        Check.that("not TAUT any more when she goes", x.hours(1), 3);
        Check.that("TAUT then", x.hours(1), 5);
        x = Check.of("p90000;p60000", "0");
        Check.that("DRAG is SPEED", x.hours(1), 0);
        x.speed(4);
        Check.that("DRAG is 1 less", x.hours(1), 1);
        x.speed(2);
        Check.that("DRAG is more", x.hours(1), 1);
        x.speed(0);
        Check.that("SPEED 0", x.hours(9), 1);
        x = Check.of("p90003;p60003", "0");
        Check.that("not by WAY as it will be", x.hours(1), 3);
        Check.that("LACK 0 holds her back", x.hours(1), 3);
    }

    static void wayAtMost() {
        Check.term(1, "WAY is 9999 at most).");
        StreamersHeld x = new StreamersHeld();
        x.speed(9);
        for (int i = 0; i < 18; i++) {
            x.hours(60);
        }
        Check.that("WAY", x.count(2), 9720);
        Check.that("9999", x.hours(31), 9999);
        Check.that("9999", x.hours(1), 9999);
        x.undo();
        x.undo();
        x.hours(30);
        x.speed(8);
        Check.that("9998", x.hours(1), 9998);
        Check.that("not more", x.hours(1), 9999);
    }

    static void pullAboveStrength() {
        Check.term(1, "each that HOLDS and whose PULL is above its STRENGTH is BROKEN");
        StreamersHeld x = Check.of("p50000;p60000;p40000;p40000", "5");
        x.drops(3);
        x.hours(1);
        Check.that("5 is above 4 alone", x.count(5), 4);
        Check.that("the DROPPED one is not BROKEN", x.streamer(3, 6), 1);
        x = Check.of("p30000;p10000", "");
        x.hours(1);
        Check.that("LACK behind her going", x.count(5), 2);
        x = Check.of("p20120", "r+3");
        x.hours(1);
        Check.that("REEL behind its going out", x.count(5), 1);
        x = Check.of("p20120", "r+2");
        x.hours(1);
        Check.that("REEL 0 behind it", x.count(5), 0);
    }

    static void allAsAheadOfThis() {
        Check.term(1, "(all as all is ahead of this)");
        StreamersHeld x = Check.of("p50000;p50000;p40000", "3*c");
        x.hours(1);
        Check.that("all three, not but the first", x.count(5), 7);
        x = Check.of("p50000;p10000", "2-c*9+(s=5)*9");
        x.hours(1);
        Check.that("one of the two", x.count(5), 0);
        x = Check.of("p10000;p50000", "2*(s=1)+6*(c=0)");
        x.hours(1);
        Check.that("the first alone", x.count(5), 1);
        x.hours(1);
        Check.that("then the second", x.count(5), 3);
    }

    static void hourIsOneMore() {
        Check.term(1, "HOUR is 1 more.");
        StreamersHeld x = Check.of("p10000", "9*(n=1)");
        x.hours(1);
        Check.that("HOUR", x.count(4), 1);
        Check.that("PULL by HOUR ahead of that", x.count(5), 0);
        x.hours(1);
        Check.that("HOUR", x.count(4), 2);
        Check.that("PULL by HOUR 1", x.count(5), 1);
        x.speed(0);
        x.hours(60);
        Check.that("HOUR of a ship that lies", x.count(4), 62);
    }
}
