/** Term 2, sentence by sentence: the ROW, questions, refused calls; and the 512 calls. */
public final class Term2Test {
    /** One that HOLDS, one that will be BROKEN in the first HOUR, one to be DROPPED. */
    private static final String THREE = "p50303;g21015;b90002";
    private static final String RULE = "9*(s=2)";

    /** Calls that tell no numbers, each of which is done. */
    private static final String[] TELL_NONE = {"sign 0", "end 0", "sheet 2 3 5 1", "sheet 3 3 5 1",
        "runs 0 9", "rates 0 9", "reels 0 9", "drops 2", "drops 2", "speed 9", "undo", "seen 0 1 1",
        "heard 0 0", "saw 1 1 1", "forget", "denies", "clears", "keep 0", "again 0", "count 11",
        "count 2", "streamers", "rule"};

    /** Calls that are refused by the three, with NONE or false. */
    private static final String[] NONE = {"sheet 4 1 5 1", "sheet -1 1 5 1", "sheet 0 8 5 1",
        "sheet 3 8 5 1", "hours -1", "hours 61", "runs -1 1", "runs 3 1", "runs 0 -1", "runs 0 10",
        "rates -1 1", "rates 3 1", "rates 0 -1", "rates 0 10", "reels -1 1", "reels 3 1",
        "reels 0 0", "reels 0 100", "drops -1", "drops 3", "speed -1", "speed 10", "later -1",
        "later 100", "when -1", "when 3", "thrift -1 1", "thrift 3 1", "thrift 0 0", "thrift 0 61",
        "mole -1 1", "mole 3 1", "mole 0 0", "mole 0 61", "slows -1 1", "slows 8 1", "slows 0 0",
        "slows 0 61", "frees -1 1", "frees 3 1", "frees 0 0", "frees 0 61", "power -1", "power 3",
        "pivots -1", "pivots 3", "ends -1 0 0 0", "ends 0 8 0 0", "ends 0 0 -1 0", "ends 0 0 0 8",
        "just -1", "just 10000", "seen -1 0 0", "seen 3 0 0", "seen 0 -100 0", "seen 0 100 0",
        "seen 0 0 2", "seen 0 0 -1", "heard -1 0", "heard 5 0", "heard 0 4", "heard 1 0",
        "heard 1 10", "heard 2 2", "heard 3 10", "heard 4 -1", "odds -1 0", "odds 11 0", "odds 0 -1",
        "odds 0 64", "saw -1 1 0", "saw 21 1 0", "saw 0 0 0", "saw 0 10 0", "saw 0 1 2",
        "letting -1", "letting 61", "wars -1", "wars 21", "years 1 0", "years 1 61", "keep -1",
        "keep 3", "again -1", "again 3", "again 1", "end -1", "end 81"};

    /** Calls of the three that tell that there is none, and the like. */
    private static final String[] BELOW = {"sheet 0 -1 5 1", "runs 0 3", "rates 0 0", "reels 0 97",
        "drops 1", "speed 3", "when 0", "gone", "stopped", "thrift 1 5", "slows 7 5", "frees 1 5",
        "power 1", "power 2", "pivots 1", "pivots 2", "just 9999"};

    private static final String[] QUESTIONS = {"later 50", "when 0", "when 1", "order", "gone",
        "stopped", "drag", "thrift 0 9", "mole 0 9", "slows 1 9", "halts", "frees 0 9", "power 0",
        "pivots 0", "colours", "parties", "ends 0 1 1 0", "just 0", "guess", "looks", "fits", "asks",
        "odds 3 4", "laws", "tries", "letting 9", "wars 9", "years 77 60", "count 3"};

    public static void main(String[] args) throws Exception {
        Check.all(Term2Test.class);
    }

    private static StreamersHeld three() {
        StreamersHeld x = Check.of(THREE, RULE);
        x.keep(0);
        x.hours(1);
        x.drops(2);
        x.seen(0, -3, 1);
        x.heard(1, 5);
        x.saw(9, 9, 0);
        Check.put(x, "k+s+r");
        return x;
    }

    static void rowToldLast() {
        Check.term(2, "ROW: numbers told last by a call that says so.");
        for (String call : TELL_NONE) {
            StreamersHeld x = Check.of(THREE, "0");
            x.keep(0);
            x.hours(1);
            Check.row("hours(1)", x, 0, 3);
            Check.that(call + " is not refused", Check.call(x, call) != -1, true);
            Check.row(call + " tells none", x, 0, 3);
            x.wars(1);
            Check.row("wars(1) tells two", x, 0, 1);
        }
    }

    static void setsAreBits() {
        Check.term(2, "Sets (of STREAMERS) are bits.");
        StreamersHeld x = Check.of("p10000;p10000;p10000;p10000;p10000;p10000;y90000", "2*(s=9)+2");
        Check.that("all seven", x.count(1), 127);
        x.drops(6);
        Check.that("the first six", x.count(1), 63);
        x.hours(1);
        Check.that("six are BROKEN", x.count(5), 63);
        x.drops(6);
        Check.that("the last one", x.count(1), 64);
        Check.that("TAUT", x.drag(), 1);
        Check.row("TAUT", x, 64, 9);
    }

    static void rowsCompared() {
        Check.term(2, "Rows are compared from the first number on.");
        StreamersHeld x = new StreamersHeld();
        // one of 7 ends behind 3, or two behind 1: the first number is the lesser one
        Check.that("letting(7)", x.letting(7), 1);
        Check.row("letting(7)", x, 1, 3);
        Check.that("wars(1)", x.wars(1), 4);
        Check.row("0 and 1 ahead of 1 and 0", x, 0, 1);
    }

    static void fractions() {
        Check.term(2, "Fractions are told in lowest terms, upper and lower number (0 by 1).");
        StreamersHeld x = Check.of("p10000;p10000;p90000", "");
        x.power(2);
        Check.row("4 by 4", x, 1, 1);
        x.power(0);
        Check.row("0 by 4", x, 0, 1);
        x.pivots(2);
        Check.row("6 by 6", x, 1, 1);
        x.pivots(1);
        Check.row("0 by 6", x, 0, 1);
        x.odds(5, 9);
        Check.row("500 by 1000", x, 1, 2);
        x.odds(10, 1);
        Check.row("0 by 1000", x, 0, 1);
        x.sheet(0, 3, 5, 0);
        x.power(0);
        Check.row("2 by 4", x, 1, 2);
        x.pivots(0);
        Check.row("2 by 6", x, 1, 3);
        x.odds(3, 15);
        Check.row("343 by 1000 stays", x, 343, 1000);
    }

    static void questionsChangeNothing() {
        Check.term(2, "Questions change nothing.");
        for (String question : QUESTIONS) {
            StreamersHeld x = three();
            String was = Check.state(x);
            Check.call(x, question);
            Check.that(question, Check.state(x), was);
            Check.that(question + ", THE TEXT", x.count(12), 5);
            Check.that(question + ", THE TEXT", x.rule(), 0);
            Check.that(question + ", THE TEXT is as it was", x.streamer(0, 8), 108);
            x.undo();
            x.undo();
            Check.that(question + ", undone", x.count(1) * 100 + x.count(2), 700);
            Check.that(question + ", kept", x.again(0), true);
        }
        StreamersHeld x = three();
        String was = Check.state(x);
        x.law();
        Check.that("law()", Check.state(x), was);
    }

    static void hoursToCome() {
        Check.term(2, "What is asked of HOURS to come is asked as if nothing else were done.");
        StreamersHeld x = Check.of(THREE, RULE);
        int way = x.later(5);
        int when = x.when(1);
        x.order();
        x.gone();
        x.thrift(0, 5);
        x.mole(1, 5);
        x.slows(3, 5);
        x.frees(1, 5);
        x.years(5, 50);
        Check.put(x, "99").law();
        Check.that("later() as ahead of it", x.later(5), way);
        Check.that("when() as ahead of it", x.when(1), when);
        Check.that("as it comes then", x.hours(5), way);
        Check.that("BROKEN as told", x.row(0), 2);
        x = Check.of("p30000;p30000", "");
        x.speed(1);
        x.drops(0);
        Check.that("one lies DROPPED all the time", x.later(9), 9);
        Check.that("it lets go alone", x.when(1), 4);
    }

    static void refusedChangeNothing() {
        Check.term(2, "Refused calls answer NONE, or false, and change nothing but THE TEXT, which "
            + "a call that reads it empties.");
        for (String call : NONE) {
            StreamersHeld x = three();
            Check.that("DRAG is 1", x.drag(), 1);
            String was = Check.state(x);
            boolean isTrue = call.startsWith("keep") || call.startsWith("again")
                || call.startsWith("end ");
            Check.that(call, Check.call(x, call), isTrue ? 0 : -1);
            Check.that(call + " changes nothing", Check.state(x), was);
            Check.row(call + " tells nothing", x, 1, 5);
            Check.that(call + ", THE TEXT", x.count(12), 5);
            undoneAndKept(call, x);
        }
    }

    private static void undoneAndKept(String call, StreamersHeld x) {
        Check.that(call + ", undo()", x.undo(), 1);
        Check.that(call + ", undone", x.count(1) * 100 + x.count(2), 503);
        Check.that(call + ", undo()", x.undo(), 0);
        Check.that(call + ", undone", x.count(1) * 100 + x.count(2), 700);
        Check.that(call + ", undo()", x.undo(), -1);
        Check.that(call + ", kept", x.again(0), true);
    }

    static void readTextsAreEmptied() {
        Check.term(2, "change nothing but THE TEXT, which a call that reads it empties.");
        String[] calls = {"streamers", "rule", "law", "sailing"};
        int[] due = {-1, -1, -10000, -1};
        for (int i = 0; i < calls.length; i++) {
            StreamersHeld x = three();
            x.drag();
            String was = Check.state(x);
            Check.put(x, "~");
            Check.that(calls[i] + " refused", Check.call(x, calls[i]), due[i]);
            Check.that(calls[i] + " changes nothing", Check.state(x), was);
            Check.row(calls[i] + " tells nothing", x, 1, 5);
            Check.that(calls[i] + " empties THE TEXT", x.count(12), 0);
            undoneAndKept(calls[i], x);
        }
        String[] good = {"p10000", "s", "s", "n1"};
        for (int i = 0; i < calls.length; i++) {
            StreamersHeld x = Check.put(new StreamersHeld(), good[i]);
            Check.that(calls[i] + " is not refused", Check.call(x, calls[i]) >= 0, true);
            Check.that(calls[i] + " empties THE TEXT", x.count(12), 0);
        }
    }

    static void noneComesAhead() {
        Check.term(2, "NONE comes ahead of other answers below 0;");
        // by the left number alone each would be answered -2, or -3
        String[] calls = {"sheet -1 -1 0 0", "sheet 4 -1 0 0", "sheet 3 8 0 0", "reels 0 100",
            "thrift 1 0", "thrift 1 61", "thrift 2 0", "slows 7 0", "slows 7 61", "frees 1 0",
            "frees 2 61", "frees 1 61"};
        for (String call : calls) {
            Check.that(call, Check.call(three(), call), -1);
        }
        Check.that("reels() of one that is full", Check.of("p59900", "").reels(0, 100), -1);
        StreamersHeld none = new StreamersHeld();
        for (String call : new String[] {"runs 0 0", "rates 0 0", "reels 0 99", "drops 0", "when 0",
            "thrift 0 1", "frees 0 1", "power 0", "pivots 0", "mole 0 1"}) {
            Check.that(call + " without STREAMERS", Check.call(none, call), -1);
        }
    }

    static void rowStays() {
        Check.term(2, "the ROW stays with each answer below 0 that tells of a refusal, or that "
            + "there is none.");
        for (String call : BELOW) {
            StreamersHeld x = three();
            x.drag();
            String was = Check.state(x);
            Check.that(call, Check.call(x, call), -2);
            Check.row(call, x, 1, 5);
            Check.that(call + " changes nothing", Check.state(x), was);
            undoneAndKept(call, x);
        }
        StreamersHeld x = three();
        x.seen(0, 99, 1);
        x.heard(0, 3);
        x.saw(0, 1, 1);
        x.drops(0);
        x.drag();
        for (String call : new String[] {"looks", "asks", "tries", "halts"}) {
            Check.that(call, Check.call(x, call), -2);
            Check.row(call, x, 0, 0);
        }
        Check.that("count(13)", x.count(13), -100);
        Check.row("count(13)", x, 0, 0);
        // another answer below 0 tells of no refusal: its ROW comes
        Check.that("law() below 0", Check.put(Check.of(THREE, "0"), "99").law(), -3);
        x = Check.of(THREE, "0");
        x.fits();
        Check.put(x, "99").law();
        Check.that("law() below 0 tells its ROW", x.count(11), 4);
    }

    static void atMost512Calls() {
        Check.beginning("An object is used for at most 512 calls after it has been made");
        StreamersHeld x = new StreamersHeld();
        int calls = 0;
        for (; calls < 500; calls++) {
            x.hours(calls % 2);
        }
        Check.that("the 501st: HOUR behind 500 calls", x.count(4), 250);
        for (int left = 14; left >= 7; left--) {
            Check.that("the 502nd to the 509th: undo()", x.undo(), left);
        }
        Check.that("the 510th", x.count(10), 7);
        Check.that("the 511th", x.speed(9), 13);
        Check.that("the 512th", x.undo(), 7);
    }
}
