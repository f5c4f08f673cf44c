import java.math.BigInteger;
import java.util.ArrayDeque;
import java.util.ArrayList;
import java.util.Arrays;
import java.util.Deque;
import java.util.HashSet;
import java.util.List;
import java.util.NoSuchElementException;
import java.util.Set;
import java.util.function.IntPredicate;

/**
 * The document once more, written as plainly as the Java library allows and without regard to
 * time or room: texts are read by trying whether a beginning can be completed, the rule is read
 * anew for each PULL, orders are really gone through.
 */
public final class Model {
    static final class One implements Cloneable {
        int colour;
        int strength;
        int reel;
        int rate;
        int place;
        int length;
        boolean broken;
        boolean dropped;

        boolean holds() {
            return !broken && !dropped;
        }

        @Override
        public One clone() {
            try {
                return (One) super.clone();
            } catch (CloneNotSupportedException e) {
                throw new IllegalStateException(e);
            }
        }
    }

    static final class World {
        final List<One> ones = new ArrayList<>();
        int way = 0;
        int speed = 3;
        int hour = 0;

        World copy() {
            World w = new World();
            for (One one : ones) {
                w.ones.add(one.clone());
            }
            w.way = way;
            w.speed = speed;
            w.hour = hour;
            return w;
        }

        int lack(One one) {
            return way - one.place - one.length;
        }

        boolean taut(One one) {
            return one.holds() && lack(one) >= 0;
        }

        int drag() {
            return ones.stream().filter(this::taut).mapToInt(o -> o.strength).sum() / 5;
        }

        int pull(One one, String rule) {
            int others = (int) ones.stream()
                .filter(o -> o != one && o.holds() && o.colour == one.colour).count();
            int value = new Formula(rule.isEmpty() ? "k" : rule, name -> {
                switch (name) {
                    case 'k': return lack(one);
                    case 's': return one.strength;
                    case 'r': return one.reel;
                    case 'p': return one.place;
                    case 'v': return speed;
                    case 'c': return others;
                    case 'n': return hour % 7;
                    default: throw new IllegalStateException();
                }
            }).value();
            return value > 99 ? 99 : value < -99 ? -99 : value;
        }

        void hour(String rule) {
            for (One one : ones) {
                if (one.holds()) {
                    int out = one.rate < one.reel ? one.rate : one.reel;
                    one.reel -= out;
                    one.length = Math.min(9999, one.length + out);
                }
            }
            int drag = drag();
            if (speed > drag) {
                way = Math.min(9999, way + speed - drag);
            }
            List<One> parting = new ArrayList<>();
            for (One one : ones) {
                if (one.holds() && pull(one, rule) > one.strength) {
                    parting.add(one);
                }
            }
            parting.forEach(o -> o.broken = true);
            hour++;
        }

        World after(int hours, String rule) {
            World w = copy();
            for (int i = 0; i < hours; i++) {
                w.hour(rule);
            }
            return w;
        }

        int bits(java.util.function.Predicate<One> which) {
            int set = 0;
            for (int i = 0; i < ones.size(); i++) {
                if (which.test(ones.get(i))) {
                    set += 1 << i;
                }
            }
            return set;
        }

        int holding() {
            return bits(One::holds);
        }

        int hold() {
            return Integer.bitCount(holding());
        }

        int strengthOf(int set) {
            int sum = 0;
            for (int i = 0; i < ones.size(); i++) {
                sum += (set >> i) % 2 * ones.get(i).strength;
            }
            return sum;
        }

        int reels() {
            return ones.stream().mapToInt(o -> o.reel).sum();
        }
    }

    interface Values {
        int of(char name);
    }

    static final class Broken extends RuntimeException {
        private static final long serialVersionUID = 1L;
    }

    /** An EXPRESSION, read and reckoned at once. */
    static final class Formula {
        private final String s;
        private final Values values;
        private int at = 0;

        Formula(String s, Values values) {
            this.s = s;
            this.values = values;
        }

        int value() {
            int v = compare(0);
            if (at != s.length()) {
                throw new Broken();
            }
            return v;
        }

        private char next() {
            return at < s.length() ? s.charAt(at) : 0;
        }

        private int compare(int depth) {
            int a = sum(depth);
            char c = next();
            if (c == '<' || c == '>' || c == '=') {
                at++;
                int b = sum(depth);
                return (c == '<' ? a < b : c == '>' ? a > b : a == b) ? 1 : 0;
            }
            return a;
        }

        private int sum(int depth) {
            int a = product(depth);
            while (next() == '+' || next() == '-') {
                boolean plus = s.charAt(at++) == '+';
                int b = product(depth);
                a = plus ? a + b : a - b;
            }
            return a;
        }

        private int product(int depth) {
            int a = signed(depth);
            while (next() == '*' || next() == '/') {
                boolean by = s.charAt(at++) == '*';
                int b = signed(depth);
                a = by ? a * b : b == 0 ? 0 : a / b;
            }
            return a;
        }

        private int signed(int depth) {
            if (next() == '-') {
                at++;
                return -signed(depth);
            }
            if (next() == '(') {
                if (depth == 4) {
                    throw new Broken();
                }
                at++;
                int v = compare(depth + 1);
                if (next() != ')') {
                    throw new Broken();
                }
                at++;
                return v;
            }
            int from = at;
            while (next() >= '0' && next() <= '9' && at - from < 3) {
                at++;
            }
            if (at > from) {
                return Integer.parseInt(s.substring(from, at));
            }
            if (next() == 0 || "ksrpvcn".indexOf(next()) < 0) {
                throw new Broken();
            }
            return values.of(s.charAt(at++));
        }

        static boolean isOne(String s) {
            try {
                new Formula(s, name -> 1).value();
                return true;
            } catch (Broken e) {
                return false;
            }
        }

        static boolean canGoOn(String s) {
            for (String thing : new String[] {"", "1"}) {
                for (String close : new String[] {"", ")", "))", ")))", "))))"}) {
                    if (isOne(s + thing + close)) {
                        return true;
                    }
                }
            }
            return false;
        }
    }

    private World world = new World();
    private String text = "";
    private String rule = "";
    private List<Long> row = new ArrayList<>();
    private Deque<World> undos = new ArrayDeque<>();
    private World[] kept = new World[3];
    private final List<int[]> sights = new ArrayList<>();
    private final List<int[]> rumours = new ArrayList<>();
    private final List<int[]> partings = new ArrayList<>();

    private void tell(long... numbers) {
        row = new ArrayList<>();
        for (long n : numbers) {
            row.add(n);
        }
    }

    private boolean none(int streamer) {
        return streamer < 0 || streamer >= world.ones.size();
    }

    private static boolean out(int v, int least, int most) {
        return v < least || v > most;
    }

    /** Where a text stops being one, or -1. */
    private static int fault(String t, int most, java.util.function.Predicate<String> canGoOn,
            java.util.function.Predicate<String> isOne) {
        if (t.isEmpty()) {
            return -1;
        }
        for (int p = 0; p < Math.min(t.length(), most); p++) {
            if (!canGoOn.test(t.substring(0, p + 1))) {
                return p;
            }
        }
        if (t.length() > most) {
            return most;
        }
        return isOne.test(t) ? -1 : t.length();
    }

    private static int ruleFault(String t) {
        return fault(t, 40, Formula::canGoOn, Formula::isOne);
    }

    private String takeText() {
        String t = text;
        text = "";
        return t;
    }

    public int sign(int v) {
        if (text.length() + 4 > 80) {
            return -1;
        }
        text += "" + (char) (v >>> 24) + (char) (v >>> 16 & 255) + (char) (v >>> 8 & 255)
            + (char) (v & 255);
        return text.length();
    }

    public boolean end(int n) {
        if (n < 0 || n > text.length()) {
            return false;
        }
        text = text.substring(0, n);
        return true;
    }

    private static boolean isLine(String s) {
        return s.matches("[pgby][1-9][0-9]{4}");
    }

    private static boolean linesCanGoOn(String s, int room) {
        String[] parts = s.split(";", -1);
        for (int i = 0; i < parts.length; i++) {
            boolean last = i == parts.length - 1;
            if (i >= room && !(last && i > 0 && parts[i].isEmpty())) {
                return false;
            }
            if (!last && !isLine(parts[i])) {
                return false;
            }
            if (last && (parts[i].length() > 6
                    || !isLine(parts[i] + "p10000".substring(parts[i].length())))) {
                return false;
            }
        }
        return true;
    }

    public int streamers() {
        String t = takeText();
        int room = 7 - world.ones.size();
        int bad = fault(t, 48, s -> linesCanGoOn(s, room),
            s -> Arrays.stream(s.split(";", -1)).allMatch(Model::isLine));
        if (bad >= 0) {
            return -1 - bad;
        }
        if (t.isEmpty()) {
            return 0;
        }
        for (String line : t.split(";")) {
            One one = new One();
            one.colour = "pgby".indexOf(line.charAt(0));
            one.strength = line.charAt(1) - '0';
            one.reel = Integer.parseInt(line.substring(2, 4));
            one.rate = line.charAt(4) - '0';
            one.place = line.charAt(5) - '0';
            world.ones.add(one);
        }
        undos.clear();
        kept = new World[3];
        return t.split(";").length;
    }

    public int rule() {
        String t = takeText();
        int bad = ruleFault(t);
        if (bad >= 0) {
            return -1 - bad;
        }
        rule = t;
        return 0;
    }

    public int streamer(int streamer, int what) {
        if (none(streamer)) {
            throw new NoSuchElementException();
        }
        One one = world.ones.get(streamer);
        int[] numbers = {one.colour, one.strength, one.reel, one.rate, one.place, one.length,
            one.broken ? 2 : one.dropped ? 1 : 0, 20000 + world.lack(one),
            100 + world.pull(one, rule)};
        if (what < 0 || what >= numbers.length) {
            throw new NoSuchElementException();
        }
        return numbers[what];
    }

    public int sheet(int kind, int n, int f, int step) {
        if (kind < 0 || kind > 3 || n > 7) {
            return -1;
        }
        if (n < 0 && kind != 3) {
            return -2;
        }
        int entry = f;
        int sum = 0;
        for (int i = 0; i < world.ones.size(); i++) {
            int v = kind == 0 ? (byte) entry : kind == 1 ? (short) entry : entry;
            if (i >= n || kind == 3) {
                v = 1;
            }
            world.ones.get(i).strength = v < 1 ? 1 : v > 9 ? 9 : v;
            sum += world.ones.get(i).strength;
            entry += step;
        }
        return kind == 3 ? -3 : sum;
    }

    private interface Act {
        int go();
    }

    private int undoable(Act act) {
        World before = world.copy();
        int answer = act.go();
        if (answer >= 0) {
            push(before);
        }
        return answer;
    }

    private void push(World before) {
        undos.addLast(before);
        if (undos.size() > 15) {
            undos.removeFirst();
        }
    }

    private int goHours(int n) {
        if (out(n, 0, 60)) {
            return -1;
        }
        int before = world.bits(o -> o.broken);
        world = world.after(n, rule);
        tell(world.bits(o -> o.broken) - before, world.hold());
        return world.way;
    }

    private int goRuns(int streamer, int v) {
        if (none(streamer) || out(v, 0, 9)) {
            return -1;
        }
        One one = world.ones.get(streamer);
        if (one.place == v) {
            return -2;
        }
        int far = Math.abs(one.place - v);
        one.place = v;
        return far;
    }

    private int goRates(int streamer, int v) {
        if (none(streamer) || out(v, 0, 9)) {
            return -1;
        }
        One one = world.ones.get(streamer);
        int was = one.rate;
        one.rate = v;
        return was == v ? -2 : 10 + was;
    }

    private int goReels(int streamer, int n) {
        if (none(streamer) || out(n, 1, 99)) {
            return -1;
        }
        One one = world.ones.get(streamer);
        if (one.reel + n > 99) {
            return -2;
        }
        return one.reel += n;
    }

    private int goDrops(int streamer) {
        if (none(streamer)) {
            return -1;
        }
        One one = world.ones.get(streamer);
        if (one.broken) {
            return -2;
        }
        one.dropped = !one.dropped;
        return world.hold();
    }

    private int goSpeed(int v) {
        if (out(v, 0, 9)) {
            return -1;
        }
        int was = world.speed;
        world.speed = v;
        return was == v ? -2 : 10 + was;
    }

    public int hours(int n) {
        return undoable(() -> goHours(n));
    }

    public int runs(int streamer, int v) {
        return undoable(() -> goRuns(streamer, v));
    }

    public int rates(int streamer, int v) {
        return undoable(() -> goRates(streamer, v));
    }

    public int reels(int streamer, int n) {
        return undoable(() -> goReels(streamer, n));
    }

    public int drops(int streamer) {
        return undoable(() -> goDrops(streamer));
    }

    public int speed(int v) {
        return undoable(() -> goSpeed(v));
    }

    private static boolean isSailing(String s) {
        return s.matches("(?:[nds][0-9]|[pr][0-9]{2}|m[0-9]{3})*");
    }

    public int sailing() {
        String t = takeText();
        int bad = fault(t, 60, s -> isSailing(s) || isSailing(s + "0") || isSailing(s + "00")
            || isSailing(s + "000"), Model::isSailing);
        if (bad >= 0) {
            return -1 - bad;
        }
        World before = world.copy();
        int done = 0;
        boolean refused = false;
        for (String act : t.split("(?=[a-z])")) {
            if (act.isEmpty()) {
                continue;
            }
            int[] d = act.substring(1).chars().map(c -> c - '0').toArray();
            int answer;
            switch (act.charAt(0)) {
                case 'n': answer = goHours(d[0]); break;
                case 'p': answer = goRuns(d[0], d[1]); break;
                case 'r': answer = goRates(d[0], d[1]); break;
                case 'm': answer = goReels(d[0], 10 * d[1] + d[2]); break;
                case 'd': answer = goDrops(d[0]); break;
                default: answer = goSpeed(d[0]);
            }
            if (answer < 0) {
                refused = true;
                break;
            }
            done++;
        }
        if (done > 0) {
            push(before);
        }
        tell(refused ? 1 : 0, world.way);
        return done;
    }

    private void restore(World old) {
        World now = old.copy();
        for (int i = 0; i < now.ones.size(); i++) {
            now.ones.get(i).strength = world.ones.get(i).strength;
        }
        world = now;
    }

    public int undo() {
        if (undos.isEmpty()) {
            return -1;
        }
        restore(undos.removeLast());
        return undos.size();
    }

    public int later(int n) {
        if (out(n, 0, 99)) {
            return -1;
        }
        World then = world.after(n, rule);
        tell(then.holding(), then.bits(then::taut));
        return then.way;
    }

    public int when(int streamer) {
        if (none(streamer)) {
            return -1;
        }
        for (int n = 0; n <= 99; n++) {
            World then = world.after(n, rule);
            if (!then.ones.get(streamer).holds()) {
                tell(then.way, then.ones.get(streamer).length);
                return n;
            }
        }
        return -2;
    }

    public int order() {
        List<Long> turn = new ArrayList<>();
        World w = world.copy();
        for (int n = 1; n <= 99; n++) {
            World next = w.after(1, rule);
            for (int i = 0; i < w.ones.size(); i++) {
                if (next.ones.get(i).broken && !w.ones.get(i).broken) {
                    turn.add((long) i);
                }
            }
            w = next;
        }
        row = turn;
        return turn.size();
    }

    public int gone() {
        World w = world.copy();
        for (int n = 0; n <= 99; n++) {
            if (w.hold() == 0) {
                tell(w.way);
                return n;
            }
            w.hour(rule);
        }
        return -2;
    }

    public int stopped() {
        List<int[]> still = new ArrayList<>();
        World w = world.copy();
        for (int n = 1; n <= 99; n++) {
            int before = w.way;
            w.hour(rule);
            if (w.way == before) {
                still.add(new int[] {n, w.way});
            }
        }
        if (still.isEmpty()) {
            return -2;
        }
        tell(still.size(), still.get(0)[1]);
        return still.get(0)[0];
    }

    public int drag() {
        tell(world.bits(world::taut), world.strengthOf(world.holding()));
        return world.drag();
    }

    public int thrift(int streamer, int n) {
        if (none(streamer) || out(n, 1, 60)) {
            return -1;
        }
        List<Integer> rates = new ArrayList<>();
        for (int rate = 0; rate <= 9; rate++) {
            World w = world.copy();
            w.ones.get(streamer).rate = rate;
            if (w.after(n, rule).ones.get(streamer).holds()) {
                rates.add(rate);
            }
        }
        if (rates.isEmpty()) {
            return -2;
        }
        tell(rates.size());
        return rates.get(0);
    }

    private int heldOf(World w, int streamer, int n) {
        int held = 0;
        World then = w.copy();
        for (int i = 1; i <= n; i++) {
            then.hour(rule);
            if (then.ones.get(streamer).holds()) {
                held++;
            }
        }
        return held;
    }

    public int mole(int streamer, int n) {
        if (none(streamer) || out(n, 1, 60)) {
            return -1;
        }
        int best = -1;
        int most = -1;
        for (int place = 9; place >= 0; place--) {
            World w = world.copy();
            w.ones.get(streamer).place = place;
            int held = heldOf(w, streamer, n);
            if (held >= most) {
                most = held;
                best = place;
            }
        }
        tell(most, heldOf(world, streamer, n));
        return best;
    }

    public int slows(int k, int n) {
        if (out(k, 0, 7) || out(n, 1, 60)) {
            return -1;
        }
        for (int speed = 9; speed >= 0; speed--) {
            World w = world.copy();
            w.speed = speed;
            int hold = w.after(n, rule).hold();
            if (hold >= k) {
                tell(hold, world.after(n, rule).hold());
                return speed;
            }
        }
        return -2;
    }

    /** Of sets within a whole for which it is so: the fewest, then the least; -1: none. */
    private static int bestSet(int whole, IntPredicate so) {
        int best = -1;
        for (int set = 0; set < 128; set++) {
            if ((set & whole) == set && so.test(set)
                    && (best < 0 || Integer.bitCount(set) < Integer.bitCount(best))) {
                best = set;
            }
        }
        return best;
    }

    private int tellSet(int best) {
        if (best < 0) {
            return -2;
        }
        tell(best);
        return Integer.bitCount(best);
    }

    public int halts() {
        return tellSet(bestSet(world.holding(), set -> world.strengthOf(set) / 5 >= world.speed));
    }

    public int frees(int streamer, int n) {
        if (none(streamer) || out(n, 1, 60)) {
            return -1;
        }
        int others = world.holding();
        if (world.ones.get(streamer).holds()) {
            others -= 1 << streamer;
        }
        return tellSet(bestSet(others, set -> {
            World w = world.copy();
            for (int i = 0; i < w.ones.size(); i++) {
                if ((set >> i) % 2 == 1) {
                    w.ones.get(i).dropped = true;
                }
            }
            return w.after(n, rule).ones.get(streamer).holds();
        }));
    }

    private void tellFraction(BigInteger upper, BigInteger lower) {
        BigInteger by = upper.gcd(lower);
        tell(upper.divide(by).longValueExact(), lower.divide(by).longValueExact());
    }

    private boolean decides(int set) {
        int rest = world.holding() & ~set;
        return world.strengthOf(set) > world.strengthOf(rest);
    }

    public int power(int streamer) {
        if (none(streamer)) {
            return -1;
        }
        if (!world.ones.get(streamer).holds()) {
            return -2;
        }
        int one = 1 << streamer;
        int so = 0;
        int all = 0;
        for (int set = 0; set < 128; set++) {
            if ((set & world.holding()) == set && (set & one) == 0) {
                all++;
                so += !decides(set) && decides(set + one) ? 1 : 0;
            }
        }
        tellFraction(BigInteger.valueOf(so), BigInteger.valueOf(all));
        return 0;
    }

    private int pivotal;
    private int orders;

    private void goThrough(int came, int left, int streamer) {
        if (left == 0) {
            orders++;
            return;
        }
        for (int i = 0; i < 7; i++) {
            if ((left >> i) % 2 == 1) {
                if (i == streamer && !decides(came) && decides(came + (1 << i))) {
                    int rest = Integer.bitCount(left) - 1;
                    for (int j = 2, f = 1; j <= rest + 1; j++) {
                        if (j == rest + 1) {
                            pivotal += f;
                        }
                        f *= j;
                    }
                    pivotal += rest == 0 ? 1 : 0;
                }
                goThrough(came + (1 << i), left - (1 << i), streamer);
            }
        }
    }

    public int pivots(int streamer) {
        if (none(streamer)) {
            return -1;
        }
        if (!world.ones.get(streamer).holds()) {
            return -2;
        }
        pivotal = 0;
        orders = 0;
        goThrough(0, world.holding(), streamer);
        tellFraction(BigInteger.valueOf(pivotal), BigInteger.valueOf(orders));
        return 0;
    }

    public int colours() {
        long[] counts = new long[4];
        for (One one : world.ones) {
            counts[one.colour] += one.holds() ? one.strength : 0;
        }
        tell(counts);
        int best = 3;
        for (int colour = 2; colour >= 0; colour--) {
            if (counts[colour] >= counts[best]) {
                best = colour;
            }
        }
        return best;
    }

    public int parties() {
        int best = 0;
        int least = Integer.MAX_VALUE;
        for (int set = 127; set >= 0; set--) {
            if ((set & world.holding()) == set) {
                int apart = Math.abs(world.strengthOf(set)
                    - world.strengthOf(world.holding() - set));
                if (apart <= least) {
                    least = apart;
                    best = set;
                }
            }
        }
        tell(best, world.strengthOf(best));
        return least;
    }

    public int ends(int a, int b, int c, int d) {
        if (out(a, 0, 7) || out(b, 0, 7) || out(c, 0, 7) || out(d, 0, 7)) {
            return -1;
        }
        List<Long> sets = new ArrayList<>();
        for (int set = 0; set < 1 << world.ones.size(); set++) {
            int[] of = {a, b, c, d};
            boolean loose = true;
            for (int i = 0; i < world.ones.size(); i++) {
                if ((set >> i) % 2 == 1) {
                    loose &= !world.ones.get(i).holds();
                    of[world.ones.get(i).colour]--;
                }
            }
            if (loose && of[0] == 0 && of[1] == 0 && of[2] == 0 && of[3] == 0) {
                sets.add((long) set);
            }
        }
        row = new ArrayList<>(sets.isEmpty() ? sets : sets.subList(0, 1));
        return sets.size();
    }

    public int just(int v) {
        if (out(v, 0, 9999)) {
            return -1;
        }
        int sets = 0;
        int best = -1;
        for (int set = (1 << world.ones.size()) - 1; set >= 0; set--) {
            int sum = 0;
            for (int i = 0; i < world.ones.size(); i++) {
                sum += (set >> i) % 2 * world.ones.get(i).length;
            }
            if (sum == v) {
                sets++;
                if (best < 0 || Integer.bitCount(set) <= Integer.bitCount(best)) {
                    best = set;
                }
            }
        }
        if (best < 0) {
            return -2;
        }
        tell(best, sets);
        return Integer.bitCount(best);
    }

    private static int addTo(List<int[]> facts, int most, int... fact) {
        if (facts.size() == most) {
            return -1;
        }
        facts.add(fact);
        return facts.size();
    }

    private static int dropAll(List<int[]> facts) {
        int were = facts.size();
        facts.clear();
        return were;
    }

    public int seen(int streamer, int v, int is) {
        if (none(streamer) || out(v, -99, 99) || out(is, 0, 1)) {
            return -1;
        }
        return addTo(sights, 10, streamer, v, is);
    }

    public int forget() {
        return dropAll(sights);
    }

    private boolean atLeast(int way, int streamer, int v) {
        One one = world.ones.get(streamer);
        return way - one.place - one.length >= v;
    }

    private boolean fitsSeen(int way) {
        return sights.stream().allMatch(f -> atLeast(way, f[0], f[1]) == (f[2] == 1));
    }

    private List<Integer> ways() {
        List<Integer> ways = new ArrayList<>();
        for (int way = 0; way <= 59; way++) {
            if (fitsSeen(way)) {
                ways.add(way);
            }
        }
        return ways;
    }

    public int guess() {
        List<Integer> ways = ways();
        long is = fitsSeen(world.way) ? 1 : 0;
        if (ways.isEmpty()) {
            tell(is);
        } else {
            tell(is, ways.get(0), ways.get(ways.size() - 1));
        }
        return ways.size();
    }

    public int looks() {
        List<Integer> ways = ways();
        if (ways.isEmpty() || world.ones.isEmpty()) {
            return -2;
        }
        int best = -1;
        int fewest = Integer.MAX_VALUE;
        for (int i = world.ones.size() - 1; i >= 0; i--) {
            for (int v = 99; v >= -99; v--) {
                int so = 0;
                for (int way : ways) {
                    so += atLeast(way, i, v) ? 1 : 0;
                }
                int most = Math.max(so, ways.size() - so);
                if (most <= fewest) {
                    fewest = most;
                    best = 200 * i + 99 + v;
                }
            }
        }
        tell(fewest);
        return best;
    }

    private static boolean canBeHeard(int what, int v) {
        int[] least = {0, 1, 0, 0, 0};
        int[] most = {3, 9, 1, 9, 1};
        return !out(what, 0, 4) && !out(v, least[what], most[what]);
    }

    public int heard(int what, int v) {
        return canBeHeard(what, v) ? addTo(rumours, 12, what, v) : -1;
    }

    public int denies() {
        return dropAll(rumours);
    }

    private boolean isTrueOf(One one, int what, int v) {
        switch (what) {
            case 0: return one.colour == v;
            case 1: return one.strength >= v;
            case 2: return one.holds() == (v == 1);
            case 3: return one.place >= v;
            default: return world.taut(one) == (v == 1);
        }
    }

    private int fitting() {
        return world.bits(o -> rumours.stream().allMatch(r -> isTrueOf(o, r[0], r[1])));
    }

    public int fits() {
        tell(Integer.bitCount(fitting()));
        return fitting();
    }

    public int asks() {
        int fitting = fitting();
        if (fitting == 0) {
            return -2;
        }
        int best = -1;
        int fewest = Integer.MAX_VALUE;
        for (int w = 4; w >= 0; w--) {
            for (int v = 9; v >= 0; v--) {
                if (canBeHeard(w, v)) {
                    int what = w;
                    int value = v;
                    int so = Integer.bitCount(fitting & world.bits(o -> isTrueOf(o, what, value)));
                    int most = Math.max(so, Integer.bitCount(fitting) - so);
                    if (most <= fewest) {
                        fewest = most;
                        best = 10 * w + v;
                    }
                }
            }
        }
        tell(fewest);
        return best;
    }

    private BigInteger tenths(int i, int counts, int p, int k) {
        if (i == world.ones.size()) {
            return counts >= k ? BigInteger.ONE : BigInteger.ZERO;
        }
        One one = world.ones.get(i);
        if (!one.holds()) {
            return tenths(i + 1, counts, p, k);
        }
        return tenths(i + 1, counts, p, k).multiply(BigInteger.valueOf(p))
            .add(tenths(i + 1, counts + one.strength, p, k).multiply(BigInteger.valueOf(10 - p)));
    }

    public int odds(int p, int k) {
        if (out(p, 0, 10) || out(k, 0, 63)) {
            return -1;
        }
        tellFraction(tenths(0, 0, p, k), BigInteger.TEN.pow(world.hold()));
        return 0;
    }

    public int saw(int k, int s, int is) {
        if (out(k, 0, 20) || out(s, 1, 9) || out(is, 0, 1)) {
            return -1;
        }
        return addTo(partings, 10, k, s, is);
    }

    public int clears() {
        return dropAll(partings);
    }

    private List<int[]> fittingLaws() {
        List<int[]> laws = new ArrayList<>();
        for (int a = 1; a <= 4; a++) {
            for (int b = 0; b <= 9; b++) {
                boolean fits = true;
                for (int[] p : partings) {
                    fits &= a * p[0] > p[1] + b == (p[2] == 1);
                }
                if (fits) {
                    laws.add(new int[] {a, b});
                }
            }
        }
        return laws;
    }

    public int laws() {
        List<int[]> laws = fittingLaws();
        if (laws.isEmpty()) {
            tell();
        } else {
            tell(laws.get(0)[0], laws.get(0)[1]);
        }
        return laws.size();
    }

    public int tries() {
        List<int[]> laws = fittingLaws();
        if (laws.isEmpty()) {
            return -2;
        }
        int best = -1;
        int fewest = Integer.MAX_VALUE;
        for (int k = 20; k >= 0; k--) {
            for (int s = 9; s >= 1; s--) {
                int so = 0;
                for (int[] l : laws) {
                    so += l[0] * k > s + l[1] ? 1 : 0;
                }
                int most = Math.max(so, laws.size() - so);
                if (most <= fewest) {
                    fewest = most;
                    best = 10 * k + s;
                }
            }
        }
        tell(fewest);
        return best;
    }

    private static final int[] KAYLES = kayles();

    private static int[] kayles() {
        int[] g = new int[61];
        for (int n = 1; n <= 60; n++) {
            Set<Integer> reached = new HashSet<>();
            for (int a = 0; a < n; a++) {
                reached.add(g[a] ^ g[n - 1 - a]);
                if (a < n - 1) {
                    reached.add(g[a] ^ g[n - 2 - a]);
                }
            }
            while (reached.contains(g[n])) {
                g[n]++;
            }
        }
        return g;
    }

    public int letting(int n) {
        if (out(n, 0, 60)) {
            return -1;
        }
        tell();
        for (int taken = 2; taken >= 1; taken--) {
            for (int left = n - taken; left >= 0; left--) {
                if ((KAYLES[left] ^ KAYLES[n - taken - left]) == 0) {
                    tell(taken, left);
                }
            }
        }
        return row.isEmpty() ? 0 : 1;
    }

    public int law() {
        String t = takeText();
        int bad = ruleFault(t);
        if (bad >= 0) {
            return -10000 - bad;
        }
        World by = world.after(20, t);
        World as = world.after(20, rule);
        tell(by.hold(), as.hold(), by.way, as.way);
        return by.hold() - as.hold();
    }

    private static int[] pays(int x, int y, int v) {
        int lesser = Math.min(x, y);
        if (x == y) {
            return new int[] {v / 2 - lesser, v / 2 - lesser};
        }
        int longer = v - lesser - Math.abs(x - y) / 3;
        return x > y ? new int[] {longer, -lesser} : new int[] {-lesser, longer};
    }

    public int wars(int v) {
        if (out(v, 0, 20)) {
            return -1;
        }
        tell();
        int pairs = 0;
        for (int x = 9; x >= 0; x--) {
            for (int y = 9; y >= 0; y--) {
                boolean rests = true;
                for (int z = 0; z <= 9; z++) {
                    rests &= pays(z, y, v)[0] <= pays(x, y, v)[0];
                    rests &= pays(x, z, v)[1] <= pays(x, y, v)[1];
                }
                if (rests) {
                    pairs++;
                    tell(x, y);
                }
            }
        }
        return pairs;
    }

    private int random;

    private int draw(int n) {
        random = random * 1103515245 + 12345;
        return (int) ((random & 0xffffffffL) / 65536 % n);
    }

    public int years(int seed, int n) {
        if (out(n, 1, 60)) {
            return -1;
        }
        random = seed;
        World w = world.copy();
        for (int i = 0; i < n; i++) {
            int kind = draw(4);
            if (kind <= 1) {
                w.hour(rule);
            } else if (!w.ones.isEmpty()) {
                One one = w.ones.get(draw(w.ones.size()));
                int v = draw(10);
                if (kind == 2) {
                    one.rate = v;
                } else {
                    one.place = v;
                }
            }
        }
        tell(w.holding(), w.reels());
        return w.way;
    }

    public boolean keep(int i) {
        if (out(i, 0, 2)) {
            return false;
        }
        kept[i] = world.copy();
        return true;
    }

    public boolean again(int i) {
        if (out(i, 0, 2) || kept[i] == null) {
            return false;
        }
        restore(kept[i]);
        undos.clear();
        return true;
    }

    public int count(int what) {
        int[] counts = {world.ones.size(), world.holding(), world.way, world.speed, world.hour,
            world.bits(o -> o.broken), world.reels(), sights.size(), partings.size(),
            rumours.size(), undos.size(), row.size(), text.length()};
        return what < 0 || what >= counts.length ? -100 : counts[what];
    }

    public long row(int i) {
        if (i < 0 || i >= row.size()) {
            throw new NoSuchElementException();
        }
        return row.get(i);
    }
}
