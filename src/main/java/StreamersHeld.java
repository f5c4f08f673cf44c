import java.util.NoSuchElementException;

/**
 * Paper streamers between a liner's rail and the quay: who still holds, who is gone when, and
 * what may be asked of it. ../shared/DOC.md says what each call does.
 *
 * <p>Everything that a call needs is made in the constructor and used again, so that a long run
 * of calls makes no objects.
 */
public final class StreamersHeld {
    public static final int NONE = -1;

    private static final int THERE_IS_NONE = -2;
    private static final int MISSING = -3;
    private static final int NO_SUCH_COUNT = -100;
    private static final int BAD_LAW = -10000;

    private static final int MOST_STREAMERS = 7;
    private static final int ALL_SETS = 1 << MOST_STREAMERS;
    private static final int COLOURS = 4;
    private static final int MOST_REEL = 99;
    private static final int MOST_WAY = 9999;
    private static final int MOST_HOURS = 60;
    private static final int MOST_HOURS_TO_COME = 99;
    private static final int LAW_HOURS = 20;

    private static final int MOST_SIGNS = 80;
    private static final int MOST_STREAMER_SIGNS = 48;
    private static final int LINE_SIGNS = 6;
    private static final int MOST_SAILING_SIGNS = 60;

    private static final int HIDDEN_WAYS = 60;
    private static final int MOST_LACK_SEEN = 99;
    private static final int MOST_LACK_TRIED = 20;
    private static final int LAWS = 40;
    private static final int MOST_ENDS = 60;
    private static final int MOST_WAR = 9;

    private final Text text = new Text();
    private final Row told = new Row();
    private final Sail sail = new Sail();
    private final Sail future = new Sail();
    private final Rule ruling = new Rule();
    private final Rule otherRule = new Rule();
    private final Memory memory = new Memory();
    private final Facts sights = new Facts(10);
    private final Facts rumours = new Facts(12);
    private final Facts partings = new Facts(10);
    private final int[] waysFrom = new int[HIDDEN_WAYS + 1];
    private final int[] nimbers = new int[MOST_ENDS + 1];
    private int nimbersKnown;
    private int drawn;

    public StreamersHeld() {
    }

    // ---- streamers

    public int sign(int v) {
        return text.append(v);
    }

    public boolean end(int n) {
        return text.shorten(n);
    }

    public int streamers() {
        int size = text.size;
        int bad = badLineSign();
        if (bad < 0) {
            addLines();
        }
        text.size = 0;
        if (bad >= 0) {
            return -1 - bad;
        }
        return (size + 1) / (LINE_SIGNS + 1);
    }

    public int rule() {
        int bad = otherRule.read(text);
        text.size = 0;
        if (bad >= 0) {
            return -1 - bad;
        }
        ruling.copy(otherRule);
        return 0;
    }

    public int streamer(int streamer, int what) throws NoSuchElementException {
        if (!sail.knows(streamer)) {
            throw new NoSuchElementException();
        }
        switch (what) {
            case 0: return sail.colour[streamer];
            case 1: return sail.strength[streamer];
            case 2: return sail.reel[streamer];
            case 3: return sail.rate[streamer];
            case 4: return sail.place[streamer];
            case 5: return sail.length[streamer];
            case 6: return sail.fate(streamer);
            case 7: return 20000 + sail.lack(streamer);
            case 8: return 100 + ruling.pull(sail, streamer);
            default: throw new NoSuchElementException();
        }
    }

    public int sheet(int kind, int n, int f, int step) {
        if (kind < 0 || kind > 3 || n > MOST_STREAMERS) {
            return NONE;
        }
        boolean missing = kind == 3;
        if (!missing && n < 0) {
            return THERE_IS_NONE;
        }
        int sum = 0;
        for (int i = 0; i < sail.many; i++) {
            boolean onSheet = !missing && i < n;
            sail.strength[i] = onSheet ? within(asKind(kind, f + i * step), 1, 9) : 1;
            sum += sail.strength[i];
        }
        return missing ? MISSING : sum;
    }

    // ---- hours, what is done

    public int hours(int n) {
        memory.mark(sail);
        return settled(goHours(n));
    }

    public int runs(int streamer, int v) {
        memory.mark(sail);
        return settled(runTo(streamer, v));
    }

    public int rates(int streamer, int v) {
        memory.mark(sail);
        return settled(setRate(streamer, v));
    }

    public int reels(int streamer, int n) {
        memory.mark(sail);
        return settled(fillReel(streamer, n));
    }

    public int drops(int streamer) {
        memory.mark(sail);
        return settled(turnEnd(streamer));
    }

    public int speed(int v) {
        memory.mark(sail);
        return settled(setSpeed(v));
    }

    public int sailing() {
        int bad = badActSign();
        if (bad >= 0) {
            text.size = 0;
            return -1 - bad;
        }
        memory.mark(sail);
        int done = 0;
        boolean refused = false;
        for (int at = 0; at < text.size && !refused; at += 1 + digitsBehind(text.at(at))) {
            refused = act(at) < 0;
            if (!refused) {
                done++;
            }
        }
        if (done > 0) {
            memory.confirm();
        }
        text.size = 0;
        tell(refused ? 1 : 0, sail.way);
        return done;
    }

    public int undo() {
        return memory.bringBack(sail) ? memory.undoable : NONE;
    }

    // ---- hours to come

    public int later(int n) {
        if (n < 0 || n > MOST_HOURS_TO_COME) {
            return NONE;
        }
        foresee(n);
        tell(future.holding(), future.taut());
        return future.way;
    }

    public int when(int streamer) {
        if (!sail.knows(streamer)) {
            return NONE;
        }
        future.copy(sail);
        for (int behind = 0; behind <= MOST_HOURS_TO_COME; behind++) {
            if (!future.holds(streamer)) {
                tell(future.way, future.length[streamer]);
                return behind;
            }
            future.passHour(ruling);
        }
        return THERE_IS_NONE;
    }

    public int order() {
        future.copy(sail);
        told.clear();
        int parted = 0;
        for (int behind = 1; behind <= MOST_HOURS_TO_COME; behind++) {
            int before = future.broken;
            future.passHour(ruling);
            int now = future.broken & ~before;
            for (int i = 0; i < future.many; i++) {
                if (isIn(now, i)) {
                    told.add(i);
                    parted++;
                }
            }
        }
        return parted;
    }

    public int gone() {
        future.copy(sail);
        for (int behind = 0; behind <= MOST_HOURS_TO_COME; behind++) {
            if (future.holding() == 0) {
                tell(future.way);
                return behind;
            }
            future.passHour(ruling);
        }
        return THERE_IS_NONE;
    }

    public int stopped() {
        future.copy(sail);
        int first = 0;
        int firstWay = 0;
        int still = 0;
        for (int behind = 1; behind <= MOST_HOURS_TO_COME; behind++) {
            int before = future.way;
            future.passHour(ruling);
            if (future.way <= before) {
                still++;
                if (still == 1) {
                    first = behind;
                    firstWay = future.way;
                }
            }
        }
        if (still == 0) {
            return THERE_IS_NONE;
        }
        tell(still, firstWay);
        return first;
    }

    public int drag() {
        tell(sail.taut(), sail.weight(sail.holding()));
        return sail.heldBack();
    }

    // ---- so that it holds

    public int thrift(int streamer, int n) {
        if (!sail.knows(streamer) || !isSpan(n)) {
            return NONE;
        }
        int least = THERE_IS_NONE;
        int many = 0;
        for (int rate = 9; rate >= 0; rate--) {
            future.copy(sail);
            future.rate[streamer] = rate;
            if (hoursHeld(streamer, n) == n) {
                least = rate;
                many++;
            }
        }
        if (many > 0) {
            tell(many);
        }
        return least;
    }

    public int mole(int streamer, int n) {
        if (!sail.knows(streamer) || !isSpan(n)) {
            return NONE;
        }
        int best = 0;
        int most = -1;
        for (int place = 0; place <= 9; place++) {
            future.copy(sail);
            future.place[streamer] = place;
            int held = hoursHeld(streamer, n);
            if (held > most) {
                most = held;
                best = place;
            }
        }
        future.copy(sail);
        tell(most, hoursHeld(streamer, n));
        return best;
    }

    public int slows(int k, int n) {
        if (k < 0 || k > MOST_STREAMERS || !isSpan(n)) {
            return NONE;
        }
        for (int speed = 9; speed >= 0; speed--) {
            int hold = holdBySpeed(speed, n);
            if (hold >= k) {
                tell(hold, holdBySpeed(sail.speed, n));
                return speed;
            }
        }
        return THERE_IS_NONE;
    }

    public int halts() {
        int holding = sail.holding();
        int fewest = MOST_STREAMERS + 1;
        int best = 0;
        for (int set = 0; set < ALL_SETS; set++) {
            boolean smaller = isWithin(set, holding) && Integer.bitCount(set) < fewest;
            if (smaller && sail.weight(set) / 5 >= sail.speed) {
                fewest = Integer.bitCount(set);
                best = set;
            }
        }
        return tellSet(fewest, best);
    }

    public int frees(int streamer, int n) {
        if (!sail.knows(streamer) || !isSpan(n)) {
            return NONE;
        }
        int others = sail.holding() & ~(1 << streamer);
        int fewest = MOST_STREAMERS + 1;
        int best = 0;
        for (int set = 0; set < ALL_SETS; set++) {
            boolean smaller = isWithin(set, others) && Integer.bitCount(set) < fewest;
            if (smaller && holdsWithout(streamer, set, n)) {
                fewest = Integer.bitCount(set);
                best = set;
            }
        }
        return tellSet(fewest, best);
    }

    // ---- votes

    public int power(int streamer) {
        if (!sail.knows(streamer)) {
            return NONE;
        }
        if (!sail.holds(streamer)) {
            return THERE_IS_NONE;
        }
        int others = sail.holding() & ~(1 << streamer);
        int tipped = 0;
        for (int set = 0; set < ALL_SETS; set++) {
            if (isWithin(set, others) && tips(set, streamer)) {
                tipped++;
            }
        }
        tellFraction(tipped, 1L << Integer.bitCount(others));
        return 0;
    }

    public int pivots(int streamer) {
        if (!sail.knows(streamer)) {
            return NONE;
        }
        if (!sail.holds(streamer)) {
            return THERE_IS_NONE;
        }
        int others = sail.holding() & ~(1 << streamer);
        int rest = Integer.bitCount(others);
        long tipped = 0;
        for (int set = 0; set < ALL_SETS; set++) {
            if (isWithin(set, others) && tips(set, streamer)) {
                int ahead = Integer.bitCount(set);
                tipped += orders(ahead) * orders(rest - ahead);
            }
        }
        tellFraction(tipped, orders(rest + 1));
        return 0;
    }

    public int colours() {
        int best = 0;
        int most = -1;
        told.clear();
        for (int colour = 0; colour < COLOURS; colour++) {
            int counts = sail.weight(sail.holding() & sail.ofColour(colour));
            told.add(counts);
            if (counts > most) {
                most = counts;
                best = colour;
            }
        }
        return best;
    }

    public int parties() {
        int holding = sail.holding();
        int all = sail.weight(holding);
        int least = all + 1;
        int best = 0;
        for (int set = 0; set < ALL_SETS; set++) {
            if (isWithin(set, holding)) {
                int apart = Math.abs(all - 2 * sail.weight(set));
                if (apart < least) {
                    least = apart;
                    best = set;
                }
            }
        }
        tell(best, sail.weight(best));
        return least;
    }

    // ---- ends that were found

    public int ends(int a, int b, int c, int d) {
        if (!mayBeEnds(a) || !mayBeEnds(b) || !mayBeEnds(c) || !mayBeEnds(d)) {
            return NONE;
        }
        int loose = sail.everyone & ~sail.holding();
        int ways = 0;
        told.clear();
        for (int set = 0; set < ALL_SETS; set++) {
            if (isWithin(set, loose) && coloursAre(set, a, b, c, d)) {
                if (ways == 0) {
                    told.add(set);
                }
                ways++;
            }
        }
        return ways;
    }

    public int just(int v) {
        if (v < 0 || v > 9999) {
            return NONE;
        }
        int fewest = MOST_STREAMERS + 1;
        int best = 0;
        int sets = 0;
        for (int set = 0; set < ALL_SETS; set++) {
            if (isWithin(set, sail.everyone) && sail.lengths(set) == v) {
                sets++;
                if (Integer.bitCount(set) < fewest) {
                    fewest = Integer.bitCount(set);
                    best = set;
                }
            }
        }
        if (sets == 0) {
            return THERE_IS_NONE;
        }
        tell(best, sets);
        return fewest;
    }

    // ---- how far off she is

    public int seen(int streamer, int v, int is) {
        boolean known = sail.knows(streamer) && isBit(is);
        if (!known || v < -MOST_LACK_SEEN || v > MOST_LACK_SEEN) {
            return NONE;
        }
        return sights.add(streamer, v, is);
    }

    public int forget() {
        return sights.drop();
    }

    public int guess() {
        int many = 0;
        int least = 0;
        int greatest = 0;
        for (int way = 0; way < HIDDEN_WAYS; way++) {
            if (fitsSights(way)) {
                if (many == 0) {
                    least = way;
                }
                greatest = way;
                many++;
            }
        }
        tell(fitsSights(sail.way) ? 1 : 0);
        if (many > 0) {
            told.add(least);
            told.add(greatest);
        }
        return many;
    }

    public int looks() {
        int left = countWaysFrom();
        if (left == 0 || sail.many == 0) {
            return THERE_IS_NONE;
        }
        int fewest = left + 1;
        int best = 0;
        for (int i = 0; i < sail.many; i++) {
            for (int v = -MOST_LACK_SEEN; v <= MOST_LACK_SEEN; v++) {
                int so = waysFrom[within(v + sail.reach(i), 0, HIDDEN_WAYS)];
                int most = Math.max(so, left - so);
                if (most < fewest) {
                    fewest = most;
                    best = 200 * i + 99 + v;
                }
            }
        }
        tell(fewest);
        return best;
    }

    // ---- which one it was

    public int heard(int what, int v) {
        return mayBeHeard(what, v) ? rumours.add(what, v, 1) : NONE;
    }

    public int denies() {
        return rumours.drop();
    }

    public int fits() {
        int fitting = fitRumours();
        tell(Integer.bitCount(fitting));
        return fitting;
    }

    public int asks() {
        int fitting = fitRumours();
        int left = Integer.bitCount(fitting);
        if (left == 0) {
            return THERE_IS_NONE;
        }
        int fewest = left + 1;
        int best = 0;
        for (int question = 0; question < 50; question++) {
            int what = question / 10;
            int v = question % 10;
            if (mayBeHeard(what, v)) {
                int so = Integer.bitCount(fitting & ofWhom(what, v));
                int most = Math.max(so, left - so);
                if (most < fewest) {
                    fewest = most;
                    best = question;
                }
            }
        }
        tell(fewest);
        return best;
    }

    // ---- chances

    public int odds(int p, int k) {
        if (p < 0 || p > 10 || k < 0 || k > 63) {
            return NONE;
        }
        int holding = sail.holding();
        int many = Integer.bitCount(holding);
        long likely = 0;
        for (int set = 0; set < ALL_SETS; set++) {
            if (isWithin(set, holding) && sail.weight(set) >= k) {
                int hold = Integer.bitCount(set);
                likely += times(10 - p, hold) * times(p, many - hold);
            }
        }
        tellFraction(likely, times(10, many));
        return 0;
    }

    // ---- laws of parting

    public int saw(int k, int s, int is) {
        boolean possible = k >= 0 && k <= MOST_LACK_TRIED && s >= 1 && s <= 9;
        return possible && isBit(is) ? partings.add(k, s, is) : NONE;
    }

    public int clears() {
        return partings.drop();
    }

    public int laws() {
        int many = 0;
        told.clear();
        for (int law = 0; law < LAWS; law++) {
            if (fitsPartings(law)) {
                if (many == 0) {
                    told.add(factorOf(law));
                    told.add(slackOf(law));
                }
                many++;
            }
        }
        return many;
    }

    public int tries() {
        long fitting = fittingLaws();
        int left = Long.bitCount(fitting);
        if (left == 0) {
            return THERE_IS_NONE;
        }
        int fewest = left + 1;
        int best = 0;
        for (int lack = 0; lack <= MOST_LACK_TRIED; lack++) {
            for (int strength = 1; strength <= 9; strength++) {
                int so = Long.bitCount(fitting & breakingLaws(lack, strength));
                int most = Math.max(so, left - so);
                if (most < fewest) {
                    fewest = most;
                    best = 10 * lack + strength;
                }
            }
        }
        tell(fewest);
        return best;
    }

    // ---- a game, laws, holds, years

    public int letting(int n) {
        if (n < 0 || n > MOST_ENDS) {
            return NONE;
        }
        learnNimbers(n);
        told.clear();
        for (int taken = 1; taken <= 2; taken++) {
            for (int left = 0; left <= n - taken; left++) {
                if (nimbers[left] == nimbers[n - taken - left]) {
                    tell(taken, left);
                    return 1;
                }
            }
        }
        return 0;
    }

    public int law() {
        int bad = otherRule.read(text);
        text.size = 0;
        if (bad >= 0) {
            return BAD_LAW - bad;
        }
        future.copy(sail);
        future.passHours(otherRule, LAW_HOURS);
        int byOther = Integer.bitCount(future.holding());
        int wayByOther = future.way;
        foresee(LAW_HOURS);
        int byRule = Integer.bitCount(future.holding());
        tell(byOther, byRule);
        told.add(wayByOther);
        told.add(future.way);
        return byOther - byRule;
    }

    public int wars(int v) {
        if (v < 0 || v > 20) {
            return NONE;
        }
        int pairs = 0;
        told.clear();
        for (int x = 0; x <= MOST_WAR; x++) {
            for (int y = 0; y <= MOST_WAR; y++) {
                if (isBestAgainst(x, y, v) && isBestAgainst(y, x, v)) {
                    if (pairs == 0) {
                        tell(x, y);
                    }
                    pairs++;
                }
            }
        }
        return pairs;
    }

    public int years(int seed, int n) {
        if (!isSpan(n)) {
            return NONE;
        }
        future.copy(sail);
        drawn = seed;
        for (int i = 0; i < n; i++) {
            drawOne();
        }
        tell(future.holding(), future.reelsTogether());
        return future.way;
    }

    // ---- kept

    public boolean keep(int i) {
        return memory.keepUnder(i, sail);
    }

    public boolean again(int i) {
        return memory.bringKept(i, sail);
    }

    public int count(int what) {
        switch (what) {
            case 0: return sail.many;
            case 1: return sail.holding();
            case 2: return sail.way;
            case 3: return sail.speed;
            case 4: return sail.hour;
            case 5: return sail.broken;
            case 6: return sail.reelsTogether();
            case 7: return sights.size;
            case 8: return partings.size;
            case 9: return rumours.size;
            case 10: return memory.undoable;
            case 11: return told.size;
            case 12: return text.size;
            default: return NO_SUCH_COUNT;
        }
    }

    public long row(int i) throws NoSuchElementException {
        if (i < 0 || i >= told.size || i >= told.numbers.length) {
            throw new NoSuchElementException();
        }
        return told.numbers[i];
    }

    // ---- what the calls share

    private static int within(int v, int least, int most) {
        return Math.max(least, Math.min(most, v));
    }

    private static boolean isBit(int v) {
        return v == 0 || v == 1;
    }

    private static boolean isDigit(int v) {
        return v >= 0 && v <= 9;
    }

    private static boolean isSpan(int hours) {
        return hours >= 1 && hours <= MOST_HOURS;
    }

    private static boolean isIn(int set, int i) {
        return (set >> i & 1) != 0;
    }

    private static boolean isWithin(int set, int whole) {
        return (set & ~whole) == 0;
    }

    private void tell(long a) {
        told.clear();
        told.add(a);
    }

    private void tell(long a, long b) {
        told.clear();
        told.add(a);
        told.add(b);
    }

    private void tellFraction(long upper, long lower) {
        long a = lower;
        long b = upper;
        // Euclid's steps stay far below this bound for any two longs
        for (int i = 0; i < 100 && b != 0; i++) {
            long rest = a % b;
            a = b;
            b = rest;
        }
        if (a == 0) {
            a = 1;
        }
        tell(upper / a, lower / a);
    }

    private int tellSet(int fewest, int set) {
        if (fewest > MOST_STREAMERS) {
            return THERE_IS_NONE;
        }
        tell(set);
        return fewest;
    }

    private void foresee(int hours) {
        future.copy(sail);
        future.passHours(ruling, hours);
    }

    // ---- texts and sheets

    private int badLineSign() {
        int size = Math.min(text.size, MOST_STREAMER_SIGNS);
        for (int at = 0; at < size; at++) {
            if (!fitsLine(at)) {
                return at;
            }
        }
        boolean complete = size == 0 || size % (LINE_SIGNS + 1) == LINE_SIGNS;
        return complete && text.size == size ? -1 : size;
    }

    private boolean fitsLine(int at) {
        int line = at / (LINE_SIGNS + 1);
        switch (at % (LINE_SIGNS + 1)) {
            case 0: return sail.many + line < MOST_STREAMERS && colourOf(text.at(at)) >= 0;
            case 1: return text.digit(at) >= 1;
            case LINE_SIGNS: return text.at(at) == ';';
            default: return text.digit(at) >= 0;
        }
    }

    private void addLines() {
        if (text.size > 0) {
            memory.loseAll();
        }
        for (int at = 0; at < text.size; at += LINE_SIGNS + 1) {
            int strength = text.digit(at + 1);
            int reel = 10 * text.digit(at + 2) + text.digit(at + 3);
            int rate = text.digit(at + 4);
            int place = text.digit(at + 5);
            sail.come(colourOf(text.at(at)), strength, reel, rate, place);
        }
    }

    private static int colourOf(int sign) {
        switch (sign) {
            case 'p': return 0;
            case 'g': return 1;
            case 'b': return 2;
            case 'y': return 3;
            default: return -1;
        }
    }

    private static int asKind(int kind, int v) {
        switch (kind) {
            case 0: return (byte) v;
            case 1: return (short) v;
            default: return v;
        }
    }

    private int badActSign() {
        int size = Math.min(text.size, MOST_SAILING_SIGNS);
        int digitsDue = 0;
        for (int at = 0; at < size; at++) {
            if (digitsDue > 0) {
                if (text.digit(at) < 0) {
                    return at;
                }
                digitsDue--;
            } else {
                digitsDue = digitsBehind(text.at(at));
                if (digitsDue == 0) {
                    return at;
                }
            }
        }
        return digitsDue == 0 && text.size == size ? -1 : size;
    }

    private static int digitsBehind(int sign) {
        switch (sign) {
            case 'n': case 'd': case 's': return 1;
            case 'p': case 'r': return 2;
            case 'm': return 3;
            default: return 0;
        }
    }

    // ---- acts: below 0, if refused

    private int settled(int answer) {
        if (answer >= 0) {
            memory.confirm();
        }
        return answer;
    }

    private int act(int at) {
        int first = text.digit(at + 1);
        int second = text.digit(at + 2);
        switch (text.at(at)) {
            case 'n': return goHours(first);
            case 'p': return runTo(first, second);
            case 'r': return setRate(first, second);
            case 'm': return fillReel(first, 10 * second + text.digit(at + 3));
            case 'd': return turnEnd(first);
            case 's': return setSpeed(first);
            default: return NONE;
        }
    }

    private int goHours(int n) {
        if (n < 0 || n > MOST_HOURS) {
            return NONE;
        }
        int before = sail.broken;
        for (int i = 0; i < n; i++) {
            sail.passHour(ruling);
        }
        tell(sail.broken & ~before, Integer.bitCount(sail.holding()));
        return sail.way;
    }

    private int runTo(int streamer, int v) {
        if (!sail.knows(streamer) || !isDigit(v)) {
            return NONE;
        }
        int far = Math.abs(v - sail.place[streamer]);
        sail.place[streamer] = v;
        return far == 0 ? THERE_IS_NONE : far;
    }

    private int setRate(int streamer, int v) {
        if (!sail.knows(streamer) || !isDigit(v)) {
            return NONE;
        }
        int was = sail.rate[streamer];
        sail.rate[streamer] = v;
        return was == v ? THERE_IS_NONE : 10 + was;
    }

    private int fillReel(int streamer, int n) {
        if (!sail.knows(streamer) || n < 1 || n > MOST_REEL) {
            return NONE;
        }
        int full = sail.reel[streamer] + n;
        if (full > MOST_REEL) {
            return THERE_IS_NONE;
        }
        sail.reel[streamer] = full;
        return full;
    }

    private int turnEnd(int streamer) {
        if (!sail.knows(streamer)) {
            return NONE;
        }
        if (isIn(sail.broken, streamer)) {
            return THERE_IS_NONE;
        }
        sail.dropped ^= 1 << streamer;
        return Integer.bitCount(sail.holding());
    }

    private int setSpeed(int v) {
        if (!isDigit(v)) {
            return NONE;
        }
        int was = sail.speed;
        sail.speed = v;
        return was == v ? THERE_IS_NONE : 10 + was;
    }

    // ---- so that it holds: what is tried stands in the future already

    private int hoursHeld(int streamer, int n) {
        int held = 0;
        for (int i = 0; i < n && future.holds(streamer); i++) {
            future.passHour(ruling);
            if (future.holds(streamer)) {
                held++;
            }
        }
        return held;
    }

    private int holdBySpeed(int speed, int n) {
        future.copy(sail);
        future.speed = speed;
        future.passHours(ruling, n);
        return Integer.bitCount(future.holding());
    }

    private boolean holdsWithout(int streamer, int set, int n) {
        future.copy(sail);
        future.dropped |= set;
        return hoursHeld(streamer, n) == n;
    }

    // ---- votes

    private boolean tips(int set, int streamer) {
        return !decides(set) && decides(set | 1 << streamer);
    }

    private boolean decides(int set) {
        return 2 * sail.weight(set) > sail.weight(sail.holding());
    }

    private static long orders(int many) {
        long all = 1;
        for (int i = 2; i <= many; i++) {
            all *= i;
        }
        return all;
    }

    private static long times(long factor, int many) {
        long product = 1;
        for (int i = 0; i < many; i++) {
            product *= factor;
        }
        return product;
    }

    // ---- ends, sights, rumours

    private static boolean mayBeEnds(int many) {
        return many >= 0 && many <= MOST_STREAMERS;
    }

    private boolean coloursAre(int set, int a, int b, int c, int d) {
        return Integer.bitCount(set & sail.ofColour(0)) == a
            && Integer.bitCount(set & sail.ofColour(1)) == b
            && Integer.bitCount(set & sail.ofColour(2)) == c
            && Integer.bitCount(set & sail.ofColour(3)) == d;
    }

    private boolean fitsSights(int way) {
        for (int i = 0; i < sights.size; i++) {
            boolean more = way - sail.reach(sights.first[i]) >= sights.second[i];
            if (more != (sights.third[i] == 1)) {
                return false;
            }
        }
        return true;
    }

    private int countWaysFrom() {
        waysFrom[HIDDEN_WAYS] = 0;
        for (int way = HIDDEN_WAYS - 1; way >= 0; way--) {
            waysFrom[way] = waysFrom[way + 1] + (fitsSights(way) ? 1 : 0);
        }
        return waysFrom[0];
    }

    private static boolean mayBeHeard(int what, int v) {
        switch (what) {
            case 0: return v >= 0 && v < COLOURS;
            case 1: return v >= 1 && v <= 9;
            case 2: case 4: return isBit(v);
            case 3: return isDigit(v);
            default: return false;
        }
    }

    private int fitRumours() {
        int fitting = sail.everyone;
        for (int i = 0; i < rumours.size; i++) {
            fitting &= ofWhom(rumours.first[i], rumours.second[i]);
        }
        return fitting;
    }

    private int ofWhom(int what, int v) {
        switch (what) {
            case 0: return sail.ofColour(v);
            case 1: return sail.asStrong(v);
            case 2: return v == 1 ? sail.holding() : sail.everyone & ~sail.holding();
            case 3: return sail.asFarAlong(v);
            default: return v == 1 ? sail.taut() : sail.everyone & ~sail.taut();
        }
    }

    // ---- laws of parting: number 0 .. 39 of a law, the least first

    private static int factorOf(int law) {
        return 1 + law / 10;
    }

    private static int slackOf(int law) {
        return law % 10;
    }

    private static boolean breaks(int law, int lack, int strength) {
        return factorOf(law) * lack > strength + slackOf(law);
    }

    private boolean fitsPartings(int law) {
        for (int i = 0; i < partings.size; i++) {
            boolean so = breaks(law, partings.first[i], partings.second[i]);
            if (so != (partings.third[i] == 1)) {
                return false;
            }
        }
        return true;
    }

    private long fittingLaws() {
        long fitting = 0;
        for (int law = 0; law < LAWS; law++) {
            if (fitsPartings(law)) {
                fitting |= 1L << law;
            }
        }
        return fitting;
    }

    private static long breakingLaws(int lack, int strength) {
        long breaking = 0;
        for (int law = 0; law < LAWS; law++) {
            if (breaks(law, lack, strength)) {
                breaking |= 1L << law;
            }
        }
        return breaking;
    }

    // ---- the game, the war, the years

    private void learnNimbers(int n) {
        for (; nimbersKnown <= n && nimbersKnown < nimbers.length; nimbersKnown++) {
            nimbers[nimbersKnown] = nimberOf(nimbersKnown);
        }
    }

    private int nimberOf(int row) {
        int reached = 0;
        for (int taken = 1; taken <= 2; taken++) {
            for (int left = 0; left <= row - taken; left++) {
                reached |= 1 << (nimbers[left] ^ nimbers[row - taken - left]);
            }
        }
        int least = 0;
        for (int i = 0; i < 31 && isIn(reached, least); i++) {
            least++;
        }
        return least;
    }

    private static boolean isBestAgainst(int mine, int yours, int v) {
        int has = gain(mine, yours, v);
        for (int other = 0; other <= MOST_WAR; other++) {
            if (gain(other, yours, v) > has) {
                return false;
            }
        }
        return true;
    }

    private static int gain(int mine, int yours, int v) {
        if (mine == yours) {
            return v / 2 - mine;
        }
        return mine < yours ? -mine : v - yours - (mine - yours) / 3;
    }

    private int draw(int n) {
        drawn = drawn * 1103515245 + 12345;
        return n < 1 ? 0 : (drawn >>> 16) % n;
    }

    private void drawOne() {
        int kind = draw(4);
        if (kind < 2) {
            future.passHour(ruling);
        } else if (future.many > 0) {
            int who = draw(future.many);
            int what = draw(10);
            if (kind == 2) {
                future.rate[who] = what;
            } else {
                future.place[who] = what;
            }
        }
    }

    /** THE TEXT. */
    private static final class Text {
        private final int[] signs = new int[MOST_SIGNS];
        private int size;

        int append(int v) {
            if (size > MOST_SIGNS - 4) {
                return NONE;
            }
            for (int shift = 24; shift >= 0; shift -= 8) {
                signs[size] = v >>> shift & 255;
                size++;
            }
            return size;
        }

        boolean shorten(int n) {
            if (n < 0 || n > size) {
                return false;
            }
            size = n;
            return true;
        }

        /** The sign there, or -1 behind the end. */
        int at(int p) {
            return p < 0 || p >= size ? -1 : signs[p];
        }

        /** The digit there, or -1. */
        int digit(int p) {
            int sign = at(p);
            return sign >= '0' && sign <= '9' ? sign - '0' : -1;
        }
    }

    /** The ROW. */
    private static final class Row {
        private final long[] numbers = new long[MOST_STREAMERS];
        private int size;

        void clear() {
            size = 0;
        }

        void add(long number) {
            if (size < numbers.length) {
                numbers[size] = number;
                size++;
            }
        }
    }

    /** What was seen or heard: up to so many facts of three numbers each. */
    private static final class Facts {
        private static final int ROOM = 12;

        private final int[] first = new int[ROOM];
        private final int[] second = new int[ROOM];
        private final int[] third = new int[ROOM];
        private final int most;
        private int size;

        Facts(int most) {
            this.most = most;
        }

        int add(int a, int b, int c) {
            if (size >= most || size >= ROOM) {
                return NONE;
            }
            first[size] = a;
            second[size] = b;
            third[size] = c;
            size++;
            return size;
        }

        int drop() {
            int were = size;
            size = 0;
            return were;
        }
    }

    /** The STREAMERS and the SHIP: as they are, or as they will be. Sets are bits. */
    private static final class Sail {
        private static final int STATE = 4 * MOST_STREAMERS + 5;

        private final int[] colour = new int[MOST_STREAMERS];
        private final int[] strength = new int[MOST_STREAMERS];
        private final int[] reel = new int[MOST_STREAMERS];
        private final int[] rate = new int[MOST_STREAMERS];
        private final int[] place = new int[MOST_STREAMERS];
        private final int[] length = new int[MOST_STREAMERS];
        private int many;
        private int everyone;
        private int broken;
        private int dropped;
        private int way;
        private int speed = 3;
        private int hour;

        boolean knows(int i) {
            return i >= 0 && i < many;
        }

        void come(int itsColour, int itsStrength, int itsReel, int itsRate, int itsPlace) {
            if (many < MOST_STREAMERS) {
                colour[many] = itsColour;
                strength[many] = itsStrength;
                reel[many] = itsReel;
                rate[many] = itsRate;
                place[many] = itsPlace;
                everyone |= 1 << many;
                many++;
            }
        }

        int holding() {
            return everyone & ~(broken | dropped);
        }

        boolean holds(int i) {
            return isIn(holding(), i);
        }

        int fate(int i) {
            if (isIn(broken, i)) {
                return 2;
            }
            return isIn(dropped, i) ? 1 : 0;
        }

        /** The WAY at which its LACK is 0. */
        int reach(int i) {
            return place[i] + length[i];
        }

        int lack(int i) {
            return way - place[i] - length[i];
        }

        int taut() {
            int set = 0;
            for (int i = 0; i < many; i++) {
                if (lack(i) >= 0) {
                    set |= 1 << i;
                }
            }
            return set & holding();
        }

        int ofColour(int which) {
            int set = 0;
            for (int i = 0; i < many; i++) {
                if (colour[i] == which) {
                    set |= 1 << i;
                }
            }
            return set;
        }

        int asStrong(int least) {
            int set = 0;
            for (int i = 0; i < many; i++) {
                if (strength[i] >= least) {
                    set |= 1 << i;
                }
            }
            return set;
        }

        int asFarAlong(int least) {
            int set = 0;
            for (int i = 0; i < many; i++) {
                if (place[i] >= least) {
                    set |= 1 << i;
                }
            }
            return set;
        }

        int companions(int i) {
            int loose = broken | dropped;
            int others = 0;
            for (int j = 0; j < many; j++) {
                if (j != i && colour[j] == colour[i] && !isIn(loose, j)) {
                    others++;
                }
            }
            return others;
        }

        /** STRENGTH of a set together. */
        int weight(int set) {
            int sum = 0;
            for (int i = 0; i < many; i++) {
                if (isIn(set, i)) {
                    sum += strength[i];
                }
            }
            return sum;
        }

        int lengths(int set) {
            int sum = 0;
            for (int i = 0; i < many; i++) {
                if (isIn(set, i)) {
                    sum += length[i];
                }
            }
            return sum;
        }

        int reelsTogether() {
            int sum = 0;
            for (int i = 0; i < many; i++) {
                sum += reel[i];
            }
            return sum;
        }

        /** DRAG. */
        int heldBack() {
            return weight(taut()) / 5;
        }

        void passHours(Rule rule, int n) {
            for (int i = 0; i < n; i++) {
                passHour(rule);
            }
        }

        void passHour(Rule rule) {
            payOut();
            way = Math.min(MOST_WAY, way + Math.max(0, speed - heldBack()));
            int parting = 0;
            int holding = holding();
            for (int i = 0; i < many; i++) {
                if (isIn(holding, i) && rule.pull(this, i) > strength[i]) {
                    parting |= 1 << i;
                }
            }
            broken |= parting;
            hour++;
        }

        private void payOut() {
            int holding = holding();
            for (int i = 0; i < many; i++) {
                if (isIn(holding, i)) {
                    int out = Math.min(rate[i], reel[i]);
                    reel[i] -= out;
                    length[i] = Math.min(MOST_WAY, length[i] + out);
                }
            }
        }

        void copy(Sail from) {
            for (int i = 0; i < MOST_STREAMERS; i++) {
                colour[i] = from.colour[i];
                strength[i] = from.strength[i];
                reel[i] = from.reel[i];
                rate[i] = from.rate[i];
                place[i] = from.place[i];
                length[i] = from.length[i];
            }
            many = from.many;
            everyone = from.everyone;
            broken = from.broken;
            dropped = from.dropped;
            way = from.way;
            speed = from.speed;
            hour = from.hour;
        }

        /** Writes what can be brought back; COLOUR and STRENGTH never are. */
        void write(int[] rows, int from) {
            if (from < 0 || from > rows.length - STATE) {
                return;
            }
            int at = from;
            for (int i = 0; i < MOST_STREAMERS; i++) {
                rows[at] = reel[i];
                rows[at + 1] = rate[i];
                rows[at + 2] = place[i];
                rows[at + 3] = length[i];
                at += 4;
            }
            rows[at] = broken;
            rows[at + 1] = dropped;
            rows[at + 2] = way;
            rows[at + 3] = speed;
            rows[at + 4] = hour;
        }

        void readBack(int[] rows, int from) {
            if (from < 0 || from > rows.length - STATE) {
                return;
            }
            int at = from;
            for (int i = 0; i < MOST_STREAMERS; i++) {
                reel[i] = rows[at];
                rate[i] = rows[at + 1];
                place[i] = rows[at + 2];
                length[i] = rows[at + 3];
                at += 4;
            }
            broken = rows[at];
            dropped = rows[at + 1];
            way = rows[at + 2];
            speed = rows[at + 3];
            hour = rows[at + 4];
        }
    }

    /** What can be undone, in a ring, and what was kept under a number. */
    private static final class Memory {
        private static final int MOST_UNDOS = 15;
        // one more than can be undone: an act is marked ahead of knowing whether it is refused
        private static final int RING = MOST_UNDOS + 1;
        private static final int NUMBERS = 3;

        private final int[] ring = new int[RING * Sail.STATE];
        private final int[] kept = new int[NUMBERS * Sail.STATE];
        private int next;
        private int undoable;
        private int keptNumbers;

        void mark(Sail sail) {
            sail.write(ring, next * Sail.STATE);
        }

        /** What was marked last was done. */
        void confirm() {
            next = (next + 1) % RING;
            undoable = Math.min(MOST_UNDOS, undoable + 1);
        }

        boolean bringBack(Sail sail) {
            if (undoable == 0) {
                return false;
            }
            undoable--;
            next = (next + RING - 1) % RING;
            sail.readBack(ring, next * Sail.STATE);
            return true;
        }

        boolean keepUnder(int i, Sail sail) {
            if (i < 0 || i >= NUMBERS) {
                return false;
            }
            sail.write(kept, i * Sail.STATE);
            keptNumbers |= 1 << i;
            return true;
        }

        boolean bringKept(int i, Sail sail) {
            if (i < 0 || i >= NUMBERS || !isIn(keptNumbers, i)) {
                return false;
            }
            sail.readBack(kept, i * Sail.STATE);
            undoable = 0;
            return true;
        }

        void loseAll() {
            undoable = 0;
            keptNumbers = 0;
        }
    }

    /**
     * A RULE, read once into steps: things are laid on a stack, signs take them from it. A step
     * below 1000 is a number, any other is 1000 and its sign.
     */
    private static final class Rule {
        private static final int MOST_RULE_SIGNS = 40;
        private static final int MOST_NESTED = 4;
        private static final int SIGNS_FROM = 1000;
        // above all signs that a text can have
        private static final int NEGATE = 256;
        private static final int MOST_PULL = 99;

        private final int[] steps = new int[MOST_RULE_SIGNS];
        private final int[] waiting = new int[MOST_RULE_SIGNS];
        private final int[] stack = new int[MOST_RULE_SIGNS];
        private int size;
        private int waits;
        private int nested;
        private int compared;
        private int digits;
        private boolean wantsThing;

        Rule() {
            steps[0] = SIGNS_FROM + 'k';
            size = 1;
        }

        void copy(Rule from) {
            for (int i = 0; i < MOST_RULE_SIGNS; i++) {
                steps[i] = from.steps[i];
            }
            size = from.size;
        }

        /** Becomes what the text tells: -1, or where a sign can't stand. */
        int read(Text text) {
            size = 0;
            waits = 0;
            nested = 0;
            compared = 0;
            wantsThing = true;
            if (text.size == 0) {
                takeThing('k');
                return -1;
            }
            int end = Math.min(text.size, MOST_RULE_SIGNS);
            for (int at = 0; at < end; at++) {
                if (!take(text.at(at))) {
                    return at;
                }
            }
            if (text.size > end || wantsThing || nested > 0) {
                return end;
            }
            release(1);
            return -1;
        }

        private boolean take(int sign) {
            if (wantsThing) {
                return takeThing(sign);
            }
            if (sign >= '0' && sign <= '9') {
                return takeDigit(sign - '0');
            }
            return sign == ')' ? close() : takeBetween(sign);
        }

        private boolean takeThing(int sign) {
            if (sign == '-') {
                hold(NEGATE);
                return true;
            }
            if (sign == '(') {
                return open();
            }
            boolean number = sign >= '0' && sign <= '9';
            if (!number && !isName(sign)) {
                return false;
            }
            emit(number ? sign - '0' : SIGNS_FROM + sign);
            digits = number ? 1 : 0;
            wantsThing = false;
            return true;
        }

        /** One more digit of a number that has one or two. */
        private boolean takeDigit(int digit) {
            if (digits < 1 || digits > 2 || size < 1) {
                return false;
            }
            steps[size - 1] = 10 * steps[size - 1] + digit;
            digits++;
            return true;
        }

        private boolean takeBetween(int sign) {
            int binding = bindingOf(sign);
            if (binding < 1 || binding > 3) {
                return false;
            }
            if (binding == 1) {
                if (isIn(compared, nested)) {
                    return false;
                }
                compared |= 1 << nested;
            }
            release(binding);
            hold(sign);
            wantsThing = true;
            return true;
        }

        private boolean open() {
            if (nested >= MOST_NESTED) {
                return false;
            }
            nested++;
            compared &= ~(1 << nested);
            hold('(');
            return true;
        }

        private boolean close() {
            if (nested == 0) {
                return false;
            }
            release(1);
            if (waits > 0) {
                waits--;
            }
            nested--;
            digits = 0;
            return true;
        }

        /** What waits and binds as much or more comes first. */
        private void release(int binding) {
            while (waits > 0 && bindingOf(waiting[waits - 1]) >= binding) {
                waits--;
                emit(SIGNS_FROM + waiting[waits]);
            }
        }

        private void hold(int sign) {
            if (waits < MOST_RULE_SIGNS) {
                waiting[waits] = sign;
                waits++;
            }
        }

        private void emit(int step) {
            if (size < MOST_RULE_SIGNS) {
                steps[size] = step;
                size++;
            }
        }

        private static boolean isName(int sign) {
            switch (sign) {
                case 'k': case 's': case 'r': case 'p': case 'v': case 'c': case 'n': return true;
                default: return false;
            }
        }

        private static int bindingOf(int sign) {
            switch (sign) {
                case '<': case '>': case '=': return 1;
                case '+': case '-': return 2;
                case '*': case '/': return 3;
                case NEGATE: return 4;
                default: return 0;
            }
        }

        /** PULL of a streamer. */
        int pull(Sail sail, int i) {
            int top = 0;
            for (int at = 0; at < size; at++) {
                int sign = steps[at] - SIGNS_FROM;
                if (sign < 0 || isName(sign)) {
                    if (top < MOST_RULE_SIGNS) {
                        stack[top] = sign < 0 ? steps[at] : valueOf(sign, sail, i);
                        top++;
                    }
                } else if (sign == NEGATE) {
                    if (top > 0) {
                        stack[top - 1] = -stack[top - 1];
                    }
                } else if (top > 1) {
                    top--;
                    stack[top - 1] = join(sign, stack[top - 1], stack[top]);
                }
            }
            return within(stack[0], -MOST_PULL, MOST_PULL);
        }

        private static int valueOf(int name, Sail sail, int i) {
            switch (name) {
                case 'k': return sail.lack(i);
                case 's': return sail.strength[i];
                case 'r': return sail.reel[i];
                case 'p': return sail.place[i];
                case 'v': return sail.speed;
                case 'c': return sail.companions(i);
                default: return sail.hour % 7;
            }
        }

        private static int join(int sign, int a, int b) {
            switch (sign) {
                case '<': return a < b ? 1 : 0;
                case '>': return a > b ? 1 : 0;
                case '=': return a == b ? 1 : 0;
                case '+': return a + b;
                case '-': return a - b;
                case '*': return a * b;
                default: return b == 0 ? 0 : a / b;
            }
        }
    }
}
