import java.io.IOException;
import java.lang.reflect.InvocationTargetException;
import java.lang.reflect.Method;
import java.lang.reflect.Modifier;
import java.nio.file.Files;
import java.nio.file.Path;
import java.util.ArrayList;
import java.util.Arrays;
import java.util.List;
import java.util.NoSuchElementException;

/** What all tests share: comparing answers, writing texts, counting what was wrong. */
final class Check {
    private static final Path DOCUMENT = Path.of("../shared/DOC.md");

    private static int checks = 0;
    private static int wrong = 0;
    private static String sentence = "";

    private Check() {
    }

    static void that(String what, long got, long want) {
        that(what, Long.toString(got), Long.toString(want));
    }

    static void that(String what, boolean got, boolean want) {
        that(what, Boolean.toString(got), Boolean.toString(want));
    }

    static void that(String what, String got, String want) {
        checks++;
        if (!got.equals(want)) {
            wrong++;
            if (wrong <= 40) {
                System.out.println(sentence + what + ": answered " + got + ", due is " + want);
            }
        }
    }

    /** The whole ROW, and that nothing is ahead of it or behind it. */
    static void row(String what, StreamersHeld x, long... want) {
        that(what + ", the ROW", rowOf(x).toString(), Arrays.toString(want));
        that(what + ", numbers of the ROW", x.count(11), want.length);
        that(what + ", row(-1)", rowThrows(x, -1), true);
        that(what + ", row behind it", rowThrows(x, want.length), true);
    }

    static List<Long> rowOf(StreamersHeld x) {
        List<Long> row = new ArrayList<>();
        for (int i = 0; i < x.count(11); i++) {
            row.add(x.row(i));
        }
        return row;
    }

    static boolean rowThrows(StreamersHeld x, int i) {
        try {
            x.row(i);
            return false;
        } catch (NoSuchElementException e) {
            return true;
        }
    }

    static boolean streamerThrows(StreamersHeld x, int streamer, int what) {
        try {
            x.streamer(streamer, what);
            return false;
        } catch (NoSuchElementException e) {
            return true;
        }
    }

    /** Makes a text THE TEXT, four signs a call. */
    static StreamersHeld put(StreamersHeld x, String text) {
        x.end(0);
        for (int at = 0; at < text.length(); at += 4) {
            int v = 0;
            for (int i = at; i < at + 4; i++) {
                v = v << 8 | (i < text.length() ? text.charAt(i) & 255 : 0);
            }
            x.sign(v);
        }
        if (!x.end(text.length())) {
            throw new IllegalStateException("could not put " + text);
        }
        return x;
    }

    /** A new object with these STREAMERS and this RULE. */
    static StreamersHeld of(String lines, String rule) {
        StreamersHeld x = new StreamersHeld();
        put(x, lines);
        if (x.streamers() < 0) {
            throw new IllegalStateException("no streamers: " + lines);
        }
        put(x, rule);
        if (x.rule() < 0) {
            throw new IllegalStateException("no rule: " + rule);
        }
        return x;
    }

    /** Runs every test of a class: each of its methods without parameters. */
    static void all(Class<?> tests) throws Exception {
        for (Method m : tests.getDeclaredMethods()) {
            if (Modifier.isStatic(m.getModifiers()) && m.getParameterCount() == 0) {
                m.setAccessible(true);
                sentence = tests.getName() + "." + m.getName() + ": ";
                try {
                    m.invoke(null);
                } catch (InvocationTargetException e) {
                    that("thrown " + Arrays.toString(e.getCause().getStackTrace()),
                        e.getCause().toString(), "nothing");
                }
            }
        }
        sentence = "";
        close(tests.getName());
    }

    /** What follows tests these words of a promise. */
    static void promise(int number, String words) {
        test("Promise " + number, "\n## Promise " + number + ":", "\n## ", words);
    }

    /** What follows tests these words of a term. */
    static void term(int number, String words) {
        String next = number == 1 ? "\n2. " : "\nAhead of the calls";
        test("Term " + number, "\n" + number + ". ", next, words);
    }

    /** What follows tests these words of what the document says ahead of its terms. */
    static void beginning(String words) {
        test("What it is", "\n## What it is", "\n## ", words);
    }

    /** What follows tests these words of a line that tells what calls are about. */
    static void about(String words) {
        test("Terms", "\nAhead of the calls", "\n## ", words);
    }

    private static void test(String where, String heading, String next, String words) {
        sentence = where + ", '" + words + "': ";
        that("the document has these words there", isInDocument(heading, next, words), true);
    }

    private static boolean isInDocument(String heading, String next, String words) {
        if (!Files.exists(DOCUMENT)) {
            return true;
        }
        try {
            String document = Files.readString(DOCUMENT);
            int from = document.indexOf(heading);
            int to = document.indexOf(next, from + 1);
            return from > 0 && to > from && plain(document.substring(from, to)).contains(words);
        } catch (IOException e) {
            throw new IllegalStateException(e);
        }
    }

    private static String plain(String text) {
        return text.replace("`", "").replaceAll("\\s+", " ");
    }

    /** One call, told as its name and its numbers; true is 1, false 0. */
    static long call(StreamersHeld x, String told) {
        String[] words = told.split(" ");
        Object[] args = new Object[words.length - 1];
        Class<?>[] types = new Class<?>[args.length];
        for (int i = 0; i < args.length; i++) {
            args[i] = Integer.parseInt(words[i + 1]);
            types[i] = int.class;
        }
        try {
            Object got = StreamersHeld.class.getMethod(words[0], types).invoke(x, args);
            return got instanceof Boolean ? ((Boolean) got ? 1 : 0) : ((Number) got).longValue();
        } catch (ReflectiveOperationException e) {
            throw new IllegalStateException(told, e);
        }
    }

    /** Everything that can be seen but the ROW and THE TEXT. */
    static String state(StreamersHeld x) {
        StringBuilder state = new StringBuilder();
        for (int what = 0; what <= 10; what++) {
            state.append(x.count(what)).append(' ');
        }
        for (int i = 0; i < x.count(0); i++) {
            for (int what = 0; what <= 8; what++) {
                state.append(what == 0 ? "| " : "").append(x.streamer(i, what)).append(' ');
            }
        }
        return state.toString();
    }

    /** WAY, SPEED, HOUR and all of STREAMERS. */
    static String ship(StreamersHeld x) {
        StringBuilder ship = new StringBuilder();
        ship.append(x.count(2)).append(' ').append(x.count(3)).append(' ').append(x.count(4));
        for (int i = 0; i < x.count(0); i++) {
            for (int what = 0; what <= 6; what++) {
                ship.append(what == 0 ? " | " : " ").append(x.streamer(i, what));
            }
        }
        return ship.toString();
    }

    static void close(String name) {
        System.out.println(name + ": " + checks + " checks, " + wrong + " wrong");
        if (wrong != 0) {
            System.exit(1);
        }
    }
}
