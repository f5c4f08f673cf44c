import java.lang.reflect.Constructor;
import java.lang.reflect.Field;
import java.lang.reflect.InvocationTargetException;
import java.lang.reflect.Method;
import java.lang.reflect.Modifier;
import java.util.Arrays;
import java.util.HashMap;
import java.util.Map;
import java.util.Random;
import java.util.TreeSet;

/**
 * Promises 1 to 53 and both terms: long runs of drawn calls, the same on the class and on the
 * model, none of more than the 512 calls that an object is used for; and the face itself.
 */
public final class ModelTest {
    /** Of each call, from which numbers each argument mostly comes. */
    private static final String[] CALLS = {
        "streamer 0..6 0..8", "sheet 0..3 0..7 -3..12 -3..3", "hours 0..3", "hours 0..60",
        "runs 0..6 0..9", "runs 0..6 0..9", "rates 0..6 0..9", "rates 0..6 0..9",
        "reels 0..6 1..99", "reels 0..6 1..30", "drops 0..6", "drops 0..6", "speed 0..9",
        "speed 0..3", "undo", "undo", "later 0..99", "when 0..6", "order", "gone", "stopped",
        "drag", "thrift 0..6 1..12", "thrift 0..6 1..60", "mole 0..6 1..12", "mole 0..6 1..60",
        "slows 0..7 1..12", "slows 0..7 1..60", "halts", "frees 0..6 1..6", "frees 0..6 1..20",
        "power 0..6", "pivots 0..6", "colours", "parties", "ends 0..2 0..2 0..2 0..2",
        "ends 0..1 0..1 0..1 0..1", "ends 0..7 0..7 0..7 0..7", "just 0..60", "just 0..9999",
        "seen 0..6 -20..60 0..1", "seen 0..6 -99..99 0..1", "forget", "guess", "looks",
        "heard 0..4 0..9", "heard 0..4 0..9", "denies", "fits", "asks", "odds 0..10 0..30",
        "odds 0..10 0..63", "saw 0..20 1..9 0..1", "saw 0..9 1..9 0..1", "clears", "laws",
        "tries", "letting 0..60", "wars 0..20", "years -9..9 1..60",
        "years -2147483648..2147483647 1..60", "keep 0..2", "again 0..2", "count 0..12",
        "end 0..80", "sign -2147483648..2147483647", "row 0..7"};
    private static final int[] STRANGE = {-1, -2, 0, 7, 8, 10, 11, 13, 21, 61, 64, 100, -100,
        10000, 65536, Integer.MAX_VALUE, Integer.MIN_VALUE};
    private static final String NAMES = "ksrpvcn";
    private static final int MOST_CALLS = 512;
    private static final int CALLS_OF_A_TEXT = 23;
    private static final int CALLS_OF_A_LOOK = 13 + 7 + 63;

    private final Random random;
    private final StreamersHeld held = new StreamersHeld();
    private final Model model = new Model();
    private final StringBuilder past = new StringBuilder();
    private boolean same = true;
    private int made = 0;

    private ModelTest(long seed) {
        random = new Random(seed);
    }

    public static void main(String[] args) throws Exception {
        face();
        for (int seed = 0; seed < 4000; seed++) {
            new ModelTest(seed).run();
        }
        Check.close("ModelTest");
    }

    private static void face() throws Exception {
        Map<String, Class<?>> answers = new HashMap<>();
        TreeSet<String> want = new TreeSet<>();
        for (Method m : Model.class.getDeclaredMethods()) {
            if (Modifier.isPublic(m.getModifiers())) {
                want.add(m.getReturnType() + " " + m.getName()
                    + Arrays.toString(m.getParameterTypes()));
                answers.put(m.getName(), m.getReturnType());
            }
        }
        TreeSet<String> got = new TreeSet<>();
        for (Method m : StreamersHeld.class.getDeclaredMethods()) {
            if (!Modifier.isPrivate(m.getModifiers())) {
                Check.that(m.getName() + " is public", Modifier.isPublic(m.getModifiers()), true);
                got.add(m.getReturnType() + " " + m.getName()
                    + Arrays.toString(m.getParameterTypes()));
            } else {
                Check.that("a private method " + m.getName() + " bears a public one's name",
                    answers.containsKey(m.getName()), false);
            }
        }
        Check.that("the face", got.toString(), want.toString());
        Check.that("final", Modifier.isFinal(StreamersHeld.class.getModifiers()), true);
        for (Field f : StreamersHeld.class.getDeclaredFields()) {
            if (!Modifier.isPrivate(f.getModifiers())) {
                Check.that("the only open field", f.getName(), "NONE");
            }
        }
        Check.that("NONE", StreamersHeld.NONE, -1);
        for (Constructor<?> c : StreamersHeld.class.getDeclaredConstructors()) {
            Check.that("constructor", c.toString(), "public StreamersHeld()");
        }
    }

    /** Most looks at the state come late, so that there are calls enough ahead of them. */
    private void run() throws Exception {
        int lookFrom = random.nextInt(MOST_CALLS - CALLS_OF_A_LOOK);
        if (random.nextInt(10) > 0) {
            text(lines());
            call("streamers");
            text(random.nextBoolean() ? gentle() : expression(2));
            call("rule");
        }
        while (same && made <= MOST_CALLS - CALLS_OF_A_TEXT - CALLS_OF_A_LOOK) {
            int kind = random.nextInt(CALLS.length + 12);
            if (kind < CALLS.length) {
                callOf(CALLS[kind]);
            } else {
                textCall(kind - CALLS.length);
            }
            if (made > lookFrom || random.nextInt(40) == 0) {
                compareState();
            } else if (random.nextInt(3) == 0) {
                compareRow();
            }
        }
        if (made <= MOST_CALLS - CALLS_OF_A_LOOK) {
            compareState();
        }
        Check.that("no more calls than an object is used for", made <= MOST_CALLS, true);
    }

    private void textCall(int kind) throws Exception {
        if (kind < 2) {
            text(spoiled(lines()));
            call("streamers");
        } else if (kind < 5) {
            text(spoiled(random.nextBoolean() ? gentle() : expression(5)));
            call("rule");
        } else if (kind < 8) {
            text(spoiled(random.nextBoolean() ? gentle() : expression(5)));
            call("law");
        } else if (kind < 11) {
            text(spoiled(acts()));
            call("sailing");
        } else {
            call(new String[] {"streamers", "rule", "law", "sailing"}[random.nextInt(4)]);
        }
    }

    private void callOf(String told) throws Exception {
        String[] words = told.split(" ");
        Object[] args = new Object[words.length - 1];
        for (int i = 0; i < args.length; i++) {
            String[] ends = words[i + 1].split("\\.\\.");
            long least = Long.parseLong(ends[0]);
            long most = Long.parseLong(ends[1]);
            args[i] = (int) (least + (random.nextLong() >>> 1) % (most - least + 1));
            if (random.nextInt(14) == 0) {
                args[i] = STRANGE[random.nextInt(STRANGE.length)];
            } else if (random.nextInt(14) == 0) {
                args[i] = (int) (random.nextBoolean() ? least : most);
            } else if (random.nextInt(20) == 0) {
                args[i] = (int) (random.nextBoolean() ? least - 1 : most + 1);
            }
        }
        call(words[0], args);
    }

    private void call(String name, Object... args) throws Exception {
        Class<?>[] types = new Class<?>[args.length];
        Arrays.fill(types, int.class);
        String got = answer(StreamersHeld.class.getMethod(name, types), held, args);
        made++;
        String want = answer(Model.class.getMethod(name, types), model, args);
        past.append(name).append(Arrays.toString(args)).append(" = ").append(want).append("; ");
        compare(name + Arrays.toString(args), got, want);
    }

    private static String answer(Method m, Object on, Object[] args) throws Exception {
        try {
            return String.valueOf(m.invoke(on, args));
        } catch (InvocationTargetException e) {
            return e.getCause().getClass().getName();
        }
    }

    private void compare(String what, String got, String want) {
        if (!got.equals(want)) {
            same = false;
            what = past + " | " + what;
        }
        Check.that(what, got, want);
    }

    private void compareState() throws Exception {
        for (int what = 0; what <= 12; what++) {
            look("count", what);
        }
        compareRow();
        for (int s = 0; s < model.count(0); s++) {
            for (int what = 0; what <= 8; what++) {
                look("streamer", s, what);
            }
        }
    }

    private void compareRow() throws Exception {
        for (int at = 0; at < model.count(11); at++) {
            look("row", at);
        }
    }

    private void look(String name, Object... args) throws Exception {
        int length = past.length();
        call(name, args);
        if (same) {
            past.setLength(length);
        }
    }

    private void text(String t) throws Exception {
        call("end", 0);
        for (int at = 0; at < t.length() && at < 80; at += 4) {
            int v = 0;
            for (int i = at; i < at + 4; i++) {
                v = v << 8 | (i < t.length() ? t.charAt(i) & 255 : 0);
            }
            call("sign", v);
        }
        call("end", Math.min(80, t.length()));
    }

    private String spoiled(String t) {
        StringBuilder s = new StringBuilder(t);
        int times = random.nextInt(4) == 0 ? 1 + random.nextInt(2) : 0;
        for (int i = 0; i < times && s.length() > 0; i++) {
            int at = random.nextInt(s.length() + 1);
            String signs = "0123456789pgbynrmdsk()+-*/<>=;csv~@:a \u00e9";
            char sign = signs.charAt(random.nextInt(signs.length()));
            switch (random.nextInt(4)) {
                case 0: s.insert(at, sign); break;
                case 1: s.setLength(at); break;
                case 2: s.insert(at, s.toString()); break;
                default: s.setCharAt(Math.min(at, s.length() - 1), sign);
            }
        }
        return s.toString();
    }

    private String lines() {
        StringBuilder s = new StringBuilder();
        int many = 1 + random.nextInt(random.nextInt(3) == 0 ? 8 : 4);
        for (int i = 0; i < many; i++) {
            s.append(i > 0 ? ";" : "").append("pgby".charAt(random.nextInt(4)))
                .append(1 + random.nextInt(9)).append(random.nextInt(10))
                .append(random.nextInt(10)).append(random.nextInt(10)).append(random.nextInt(10));
        }
        return s.toString();
    }

    private String acts() {
        StringBuilder s = new StringBuilder();
        int many = random.nextInt(random.nextInt(8) == 0 ? 25 : 6);
        for (int i = 0; i < many; i++) {
            int who = random.nextInt(random.nextInt(6) == 0 ? 10 : 3);
            int v = random.nextInt(10);
            switch (random.nextInt(6)) {
                case 0: s.append('n').append(random.nextInt(4)); break;
                case 1: s.append('p').append(who).append(v); break;
                case 2: s.append('r').append(who).append(v); break;
                case 3: s.append('m').append(who).append(random.nextInt(3)).append(v); break;
                case 4: s.append('d').append(who); break;
                default: s.append('s').append(v);
            }
        }
        return s.toString();
    }

    /** A rule by which not all is broken at once. */
    private String gentle() {
        String[] rules = {"k/3", "k-5", "k/2-c", "(k>4)*k", "k*c/4", "k-v+n", "9-r", "s+(k>r)",
            "k*(n=3)", "k/(p+1)", "-k+20*(k<0)", "0", "s+(n>4)", "k-20", "(k>s)*(k>v)*9", "c*3",
            "v*2-p", "k/4+(c<1)*3", ""};
        return rules[random.nextInt(rules.length)];
    }

    private String expression(int depth) {
        String s = sum(depth);
        if (random.nextInt(4) == 0) {
            s += "<>=".charAt(random.nextInt(3)) + sum(depth);
        }
        return s;
    }

    private String sum(int depth) {
        StringBuilder s = new StringBuilder(product(depth));
        while (random.nextInt(3) == 0) {
            s.append("+-".charAt(random.nextInt(2))).append(product(depth));
        }
        return s.toString();
    }

    private String product(int depth) {
        StringBuilder s = new StringBuilder(thing(depth));
        while (random.nextInt(4) == 0) {
            s.append("*/".charAt(random.nextInt(2))).append(thing(depth));
        }
        return s.toString();
    }

    private String thing(int depth) {
        String minus = random.nextInt(6) == 0 ? random.nextInt(4) == 0 ? "--" : "-" : "";
        int kind = random.nextInt(depth > 0 ? 6 : 5);
        if (kind == 5) {
            return minus + "(" + expression(depth - 1) + ")";
        }
        if (kind > 2) {
            return minus + random.nextInt(random.nextInt(8) == 0 ? 1100 : 12);
        }
        return minus + NAMES.charAt(random.nextInt(NAMES.length()));
    }
}
