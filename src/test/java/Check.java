import java.util.ArrayList;
import java.util.Arrays;
import java.util.List;
import java.util.NoSuchElementException;

/** What all tests share: comparing answers, writing texts, counting what was wrong. */
final class Check {
    private static int checks = 0;
    private static int wrong = 0;

    private Check() {
    }

    static void that(String what, long got, long want) {
        that(what, Long.toString(got), Long.toString(want));
    }

    static void that(String what, boolean got, boolean want) {
        that(what, Boolean.toString(got), Boolean.toString(want));
    }

    static void that(String what, String got, String want) {
        checks++;
        if (!got.equals(want)) {
            wrong++;
            if (wrong <= 40) {
                System.out.println(what + ": answered " + got + ", due is " + want);
            }
        }
    }

    /** The whole ROW, and that nothing is ahead of it or behind it. */
    static void row(String what, StreamersHeld x, long... want) {
        that(what + ", the ROW", rowOf(x).toString(), Arrays.toString(want));
        that(what + ", numbers of the ROW", x.count(11), want.length);
        that(what + ", row(-1)", rowThrows(x, -1), true);
        that(what + ", row behind it", rowThrows(x, want.length), true);
    }

    static List<Long> rowOf(StreamersHeld x) {
        List<Long> row = new ArrayList<>();
        for (int i = 0; i < x.count(11); i++) {
            row.add(x.row(i));
        }
        return row;
    }

    static boolean rowThrows(StreamersHeld x, int i) {
        try {
            x.row(i);
            return false;
        } catch (NoSuchElementException e) {
            return true;
        }
    }

    static boolean streamerThrows(StreamersHeld x, int streamer, int what) {
        try {
            x.streamer(streamer, what);
            return false;
        } catch (NoSuchElementException e) {
            return true;
        }
    }

    /** Makes a text THE TEXT, four signs a call. */
    static StreamersHeld put(StreamersHeld x, String text) {
        x.end(0);
        for (int at = 0; at < text.length(); at += 4) {
            int v = 0;
            for (int i = at; i < at + 4; i++) {
                v = v << 8 | (i < text.length() ? text.charAt(i) & 255 : 0);
            }
            x.sign(v);
        }
        if (!x.end(text.length())) {
            throw new IllegalStateException("could not put " + text);
        }
        return x;
    }

    /** A new object with these STREAMERS and this RULE. */
    static StreamersHeld of(String lines, String rule) {
        StreamersHeld x = new StreamersHeld();
        put(x, lines);
        if (x.streamers() < 0) {
            throw new IllegalStateException("no streamers: " + lines);
        }
        put(x, rule);
        if (x.rule() < 0) {
            throw new IllegalStateException("no rule: " + rule);
        }
        return x;
    }

    static void close(String name) {
        System.out.println(name + ": " + checks + " checks, " + wrong + " wrong");
        if (wrong != 0) {
            System.exit(1);
        }
    }
}
