/** Holes in a town's nets, and the men who mend them within the hour between boats. */
public final class NetMender {
    private static final int LOW = -1000000000;
    private static final int BEYOND = LOW - 1;
    private static final int NONE = LOW - 2;
    private static final int STATE = LOW - 3;
    private static final int FULL = LOW - 4;
    private static final int KIND = LOW - 5;
    private static final int PARTED = LOW - 6;
    private static final int ERRORS = 6;

    private static final int KNOTS = 20;
    private static final int COLUMNS = 5;
    private static final int THREADS = 31;
    private static final int ROW_THREADS = 16;
    private static final int GAPS = 4;
    private static final int MESHES = 12;
    private static final int HANDS = 5;
    private static final int MEN = 3;
    private static final int HOUR_HOLES = 6;
    private static final int MOST_CUTS = 3;
    private static final int MOST_WORN = 99;
    private static final int MOST_HOLDS = 99;
    private static final int MOST_WEARS = 20;
    private static final int MOST_TWINE = 9999;
    private static final int MOST_SPEED = 30;
    private static final int LAST_DAY = 9999;
    private static final int MOST_DAYS = 60;

    private static final int KINDS = 7;
    private static final int NO_KIND = -1;
    private static final int KNOT = 0;
    private static final int SLIP = 1;
    private static final int DOUBLE = 2;
    private static final int FLAT = 3;
    private static final int LEFT = 4;
    private static final int GRANNY = 5;
    private static final int TOLD = 6;

    private static final int USES = 2;
    private static final int HOLDS_USE = 0;
    private static final int WEARS_USE = 1;
    private static final int TAPE_BYTES = 60;
    private static final int MOST_WAITING = 24;
    private static final int SHEETS = 4;
    private static final int SHEET_NUMBERS = 40;
    /** Answers that tell a place but are no ERROR stand below this one. */
    private static final int REFUSED_AT = -10;

    private final Quay now = new Quay();
    private final Quay kept = new Quay();
    private final Net ahead = new Net();
    private final Net renewed = new Net();
    private final TextReader reader = new TextReader();
    private final Mending mending = new Mending();
    private final Hour hour = new Hour();
    private final Voices voices = new Voices();
    private final Sheet[] sheets = new Sheet[SHEETS];
    private final int[] refusals = new int[ERRORS + 1];
    private int images = 0;

    public NetMender() {
        for (int i = 0; i < SHEETS; i++) {
            sheets[i] = new Sheet();
        }
    }

    // ---- knots, threads

    public int tie(int knot, int km, int hand) {
        if (!isBelow(knot, KNOTS) || !isBelow(km, 10 * KINDS) || !isBelow(hand, HANDS)) {
            return refuse(BEYOND);
        }
        Net net = now.net;
        int before = 10 * net.kinds[knot] + net.numbers[knot];
        net.kinds[knot] = km / 10;
        net.numbers[knot] = km % 10;
        net.tieAnew(knot, hand);
        return before;
    }

    public int knotIs(int knot, int what) {
        if (!isBelow(knot, KNOTS)) {
            return refuse(BEYOND);
        }
        Net net = now.net;
        switch (what) {
            case 0:
                return net.kinds[knot];
            case 1:
                return net.numbers[knot];
            case 2:
                return net.tiers[knot];
            case 3:
                return net.tiedOn[knot];
            case 4:
                return net.holdsOf(knot);
            case 5:
                return Kinds.takesOf(net.kinds[knot]);
            case 6:
                return Integer.bitCount(Grid.threadsAt(net.missing, 1 << knot));
            default:
                return refuse(BEYOND);
        }
    }

    public int as(int knot, int kind) {
        if (!isBelow(knot, KNOTS) || !isBelow(kind, KINDS)) {
            return refuse(BEYOND);
        }
        if (!Kinds.isUnder(now.net.kinds[knot], kind)) {
            return refuse(KIND);
        }
        return now.net.holdsOf(knot);
    }

    public int threadIs(int thread, int what) {
        if (!isBelow(thread, THREADS) || !isBelow(what, Net.THREAD_FACTS)) {
            return refuse(BEYOND);
        }
        return now.net.threadFact(thread, what);
    }

    public int cut(int thread) {
        if (!isBelow(thread, THREADS)) {
            return refuse(BEYOND);
        }
        if (now.net.isMissing(thread)) {
            return refuse(STATE);
        }
        now.net.lose(thread);
        return now.net.missingThreads();
    }

    public int wear(int thread, int v) {
        if (!isBelow(thread, THREADS) || !isWithin(v, 0, MOST_WORN)) {
            return refuse(BEYOND);
        }
        if (now.net.isMissing(thread)) {
            return refuse(STATE);
        }
        int before = now.net.worn[thread];
        now.net.worn[thread] = v;
        return before;
    }

    public int twine(int v) {
        if (!isWithin(v, 0, MOST_TWINE)) {
            return refuse(BEYOND);
        }
        int before = now.ells;
        now.ells = v;
        return before;
    }

    public int speed(int man, int v) {
        if (!isBelow(man, MEN) || !isWithin(v, 1, MOST_SPEED)) {
            return refuse(BEYOND);
        }
        int before = now.speeds[man];
        now.speeds[man] = v;
        return before;
    }

    // ---- texts

    public int feed(long word, int n) {
        if (!isWithin(n, 1, 8)) {
            return refuse(BEYOND);
        }
        if (n > TAPE_BYTES - now.taped) {
            return refuse(FULL);
        }
        for (int i = 0; i < n; i++) {
            now.tape[now.taped + i] = (int) (word >>> (8 * i)) & 255;
        }
        now.taped += n;
        return now.taped;
    }

    public int text(int use) {
        if (!isBelow(use, USES)) {
            return refuse(BEYOND);
        }
        int fault = reader.read(now.tape, now.taped, use);
        now.taped = 0;
        if (fault != TextReader.NO_FAULT) {
            return REFUSED_AT - fault;
        }
        now.net.lawOf(use).become(reader.law);
        return 1;
    }

    public int untell(int use) {
        if (!isBelow(use, USES)) {
            return refuse(BEYOND);
        }
        Law law = now.net.lawOf(use);
        int before = law.isThere() ? 1 : 0;
        law.forget();
        return before;
    }

    // ---- mending

    public int run(int sheet, int hand) {
        if (!isBelow(sheet, SHEETS) || !isBelow(hand, HANDS)) {
            return refuse(BEYOND);
        }
        Sheet row = sheets[sheet];
        if (row.isMissing() || row.size == 0) {
            return refuse(NONE);
        }
        int stop = now.net.runStops(row);
        if (stop < row.size) {
            return REFUSED_AT - stop;
        }
        int ells = now.net.ellsOfRun(row);
        if (ells > now.ells) {
            return refuse(FULL);
        }
        now.ells -= ells;
        now.net.mendRun(row, hand);
        return row.size - 1;
    }

    public int odd(int what) {
        switch (what) {
            case 0:
                return Integer.bitCount(Grid.oddKnots(now.net.missing));
            case 1:
                return Mending.isOneRun(now.net.missing) ? 1 : 0;
            default:
                return refuse(BEYOND);
        }
    }

    public int cuts(int what) {
        if (!isWithin(what, -1, MOST_CUTS - 1)) {
            return refuse(BEYOND);
        }
        int fewest = mending.fewestCuts(now.net.missing);
        if (fewest == Mending.NO_CUTS || what >= fewest) {
            return refuse(NONE);
        }
        return what < 0 ? fewest : mending.chosen[what];
    }

    public int way(int i) {
        if (i < 0) {
            return refuse(BEYOND);
        }
        if (!Mending.isOneRun(now.net.missing)) {
            return refuse(STATE);
        }
        if (i > now.net.missingThreads()) {
            return refuse(NONE);
        }
        return Mending.wayKnot(now.net.missing, i);
    }

    // ---- holes, the hour

    public int hole(int hole) {
        if (hole < -1) {
            return refuse(BEYOND);
        }
        int holes = Grid.holesIn(now.net.missing);
        if (hole >= holes) {
            return refuse(NONE);
        }
        return hole < 0 ? holes : Integer.bitCount(Grid.holeAt(now.net.missing, hole));
    }

    public int open() {
        return Grid.greatestOpening(now.net.missing);
    }

    public int minutes(int hole) {
        if (hole < -1) {
            return refuse(BEYOND);
        }
        int holes = Grid.holesIn(now.net.missing);
        if (hole >= holes) {
            return refuse(NONE);
        }
        if (holes > HOUR_HOLES) {
            return refuse(FULL);
        }
        hour.plan(now.net.missing, holes, now.speeds);
        return hole < 0 ? hour.least : hour.who[hole];
    }

    // ---- days

    public int days(int n) {
        int error = daysError(n);
        if (error != 0) {
            return refuse(error);
        }
        now.net.passDays(n);
        return now.net.missingThreads();
    }

    public int draws(int n) {
        int error = daysError(n);
        if (error != 0) {
            return refuse(error);
        }
        for (int i = 0; i < n; i++) {
            now.net.lose(now.nextDraw() % THREADS);
            now.net.passDay();
        }
        return now.net.missingThreads();
    }

    public int seed(int v) {
        int before = now.z;
        now.z = v;
        return before;
    }

    public int then(int n, int thread, int what) {
        if (!isWithin(n, 0, MOST_DAYS) || !isBelow(thread, THREADS)
                || !isBelow(what, Net.THREAD_FACTS)) {
            return refuse(BEYOND);
        }
        ahead.become(now.net);
        ahead.passDays(n);
        return ahead.threadFact(thread, what);
    }

    public int goes(int n, int what) {
        if (!isWithin(n, 1, MOST_DAYS) || !isBelow(what, 2)) {
            return refuse(BEYOND);
        }
        ahead.become(now.net);
        for (int i = 1; i <= n; i++) {
            ahead.passDay();
            int gone = ahead.missing & ~now.net.missing;
            if (gone != 0) {
                return what == 0 ? Grid.firstOf(gone) : i;
            }
        }
        return refuse(NONE);
    }

    public int mendAhead(int n, int what) {
        if (!isWithin(n, 1, MOST_DAYS) || !isBelow(what, 2)) {
            return refuse(BEYOND);
        }
        if (now.net.missingThreads() == THREADS) {
            return refuse(NONE);
        }
        // THREADS wear each for itself, so one look ahead with all of them new
        // tells for every single one how it would fare if it alone were new.
        ahead.become(now.net);
        ahead.passDays(n);
        renewed.become(now.net);
        renewed.renewAll();
        renewed.passDays(n);
        int best = -1;
        int fewest = THREADS + 1;
        for (int t = 0; t < THREADS; t++) {
            int left = Integer.bitCount((ahead.missing & ~(1 << t)) | (renewed.missing & (1 << t)));
            if (!now.net.isMissing(t) && left < fewest) {
                best = t;
                fewest = left;
            }
        }
        return what == 0 ? best : fewest;
    }

    // ---- hands, what swims out

    public int hands(int hand, int day) {
        if (!isBelow(hand, HANDS) || !isWithin(day, 0, LAST_DAY)) {
            return refuse(BEYOND);
        }
        int tied = 0;
        for (int k = 0; k < KNOTS; k++) {
            if (now.net.tiers[k] == hand && now.net.tiedOn[k] >= day) {
                tied++;
            }
        }
        return tied;
    }

    public long swimsOut(int part) {
        if (!isBelow(part, 2)) {
            return refuse(BEYOND);
        }
        int missing = now.net.missingThreads();
        // 31 is prime: only none and all of them have lower terms.
        boolean whole = missing == 0 || missing == THREADS;
        if (part == 0) {
            return whole ? missing / THREADS : missing;
        }
        return whole ? 1 : THREADS;
    }

    // ---- voices, sheets, images, what is told

    public int voice(int knot, int voice, int x) {
        if (!isBelow(knot, KNOTS) || !isBelow(voice, Voices.VOICES)) {
            return refuse(BEYOND);
        }
        int answer = voices.hear(now.net.kinds[knot], now.net.numbers[knot], knot, voice, x);
        return voices.parted ? refuse(PARTED) : answer;
    }

    public int body(int i) {
        if (!isBelow(i, voices.traced)) {
            return refuse(NONE);
        }
        return voices.trace[i];
    }

    public int sheet(int sheet, int bits, int n) {
        if (!isBelow(sheet, SHEETS) || bits != 0 && bits != 8 && bits != 16 && bits != 32) {
            return refuse(BEYOND);
        }
        if (bits != 0 && n < 0) {
            return refuse(STATE);
        }
        if (bits != 0 && n > SHEET_NUMBERS) {
            return refuse(BEYOND);
        }
        sheets[sheet].begin(bits, bits == 0 ? 0 : n);
        return 1;
    }

    public int put(int sheet, int i, int v) {
        if (!isBelow(sheet, SHEETS)) {
            return refuse(BEYOND);
        }
        Sheet row = sheets[sheet];
        if (row.isMissing()) {
            return refuse(NONE);
        }
        if (!isBelow(i, row.size)) {
            return refuse(BEYOND);
        }
        row.write(i, v);
        return 1;
    }

    public int move(int sheet, int i, int other, int j, int n) {
        if (!isBelow(sheet, SHEETS) || !isBelow(other, SHEETS)) {
            return refuse(BEYOND);
        }
        Sheet from = sheets[sheet];
        Sheet to = sheets[other];
        if (from.isMissing() || to.isMissing()) {
            return refuse(NONE);
        }
        if (from.bits != to.bits) {
            return refuse(KIND);
        }
        if (!from.hasStretch(i, n) || !to.hasStretch(j, n)) {
            return refuse(BEYOND);
        }
        System.arraycopy(from.numbers, i, to.numbers, j, n);
        return n;
    }

    public int cutAll(int sheet) {
        int error = readingError(sheet);
        if (error != 0) {
            return refuse(error);
        }
        Sheet row = sheets[sheet];
        for (int i = 0; i < row.size; i++) {
            int thread = row.numbers[i];
            if (!isBelow(thread, THREADS) || now.net.isMissing(thread)) {
                return i;
            }
            now.net.lose(thread);
        }
        return row.size;
    }

    public int judge(int sheet) {
        int error = readingError(sheet);
        if (error != 0) {
            return refuse(error);
        }
        Sheet row = sheets[sheet];
        for (int i = 0; i < row.size; i++) {
            if (i >= THREADS || row.numbers[i] != now.net.worn[i]) {
                return i;
            }
        }
        return row.size;
    }

    public int image() {
        kept.become(now);
        images++;
        return images;
    }

    public int restore() {
        if (images == 0) {
            return refuse(NONE);
        }
        now.become(kept);
        return now.net.day;
    }

    public int tell(int v) {
        if (now.waits >= MOST_WAITING) {
            return refuse(FULL);
        }
        now.waiting[now.waits] = v;
        now.waits++;
        return now.waits;
    }

    public int check() {
        int told = now.waits;
        now.waits = 0;
        ahead.become(now.net);
        for (int i = 0; i < told; i++) {
            ahead.passDay();
            if (now.waiting[i] != ahead.missingThreads()) {
                return 1 + i;
            }
        }
        return 0;
    }

    public int count(int what) {
        switch (what) {
            case 0:
                return now.net.day;
            case 1:
                return now.net.missingThreads();
            case 2:
                return now.net.firstThreads();
            case 3:
                return now.ells;
            case 4:
                return now.net.wornInAll();
            case 5:
                return now.taped;
            case 6:
                return now.waits;
            case 7:
                return voices.traced;
            case 8:
                return now.z;
            default:
                return isWithin(what, 9, 8 + MEN) ? now.speeds[what - 9] : refuse(BEYOND);
        }
    }

    public int told(int k) {
        if (!isWithin(k, 1, ERRORS)) {
            return refuse(BEYOND);
        }
        return refusals[k];
    }

    private static boolean isBelow(int v, int limit) {
        return v >= 0 && v < limit;
    }

    private static boolean isWithin(int v, int least, int most) {
        return v >= least && v <= most;
    }

    private static int heldWithin(int v, int least, int most) {
        return Math.max(least, Math.min(most, v));
    }

    /** Every ERROR goes out through here, so that told() knows of it. */
    private int refuse(int error) {
        int k = LOW - error;
        if (isWithin(k, 1, ERRORS)) {
            refusals[k]++;
        }
        return error;
    }

    /** Why n DAYS can't go by in earnest; 0 if they can. */
    private int daysError(int n) {
        if (!isWithin(n, 1, MOST_DAYS)) {
            return BEYOND;
        }
        return now.net.day + n > LAST_DAY ? STATE : 0;
    }

    /** Why a SHEET can't be read through; 0 if it can. */
    private int readingError(int sheet) {
        if (!isBelow(sheet, SHEETS)) {
            return BEYOND;
        }
        return sheets[sheet].isMissing() ? NONE : 0;
    }

    /** What is the same for all KNOTS of a KIND. */
    private static final class Kinds {
        static int above(int kind) {
            switch (kind) {
                case KNOT:
                    return NO_KIND;
                case LEFT:
                    return SLIP;
                case GRANNY:
                    return DOUBLE;
                default:
                    return KNOT;
            }
        }

        static boolean isUnder(int kind, int other) {
            int at = kind;
            for (int i = 0; i < KINDS && at != NO_KIND; i++) {
                if (at == other) {
                    return true;
                }
                at = above(at);
            }
            return false;
        }

        static int takesOf(int kind) {
            return kind == DOUBLE || kind == LEFT || kind == GRANNY ? 2 : 1;
        }
    }

    /** Where THREADS, KNOTS and MESHES lie; sets of them are ints, a bit for each. */
    private static final class Grid {
        static int lesserKnot(int thread) {
            return thread < ROW_THREADS ? thread / GAPS * COLUMNS + thread % GAPS : thread - ROW_THREADS;
        }

        static int greaterKnot(int thread) {
            return lesserKnot(thread) + (thread < ROW_THREADS ? 1 : COLUMNS);
        }

        static int endsOf(int thread) {
            int pair = thread < ROW_THREADS ? 1 | 1 << 1 : 1 | 1 << COLUMNS;
            return pair << lesserKnot(thread);
        }

        /** The THREAD between two numbers, or -1 if they aren't KNOTS beside each other. */
        static int between(int one, int other) {
            int less = Math.min(one, other);
            int more = Math.max(one, other);
            if (less < 0 || more >= KNOTS) {
                return -1;
            }
            if (more - less == COLUMNS) {
                return ROW_THREADS + less;
            }
            if (more - less == 1 && less % COLUMNS < GAPS) {
                return less / COLUMNS * GAPS + less % COLUMNS;
            }
            return -1;
        }

        static int meshesBeside(int thread) {
            int meshes = 0;
            if (thread < ROW_THREADS) {
                // The MESH below a THREAD of a row bears its number, the one above 4 less.
                meshes |= thread < MESHES ? 1 << thread : 0;
                meshes |= thread >= GAPS ? 1 << (thread - GAPS) : 0;
                return meshes;
            }
            int row = (thread - ROW_THREADS) / COLUMNS;
            int column = (thread - ROW_THREADS) % COLUMNS;
            meshes |= column < GAPS ? 1 << (GAPS * row + column) : 0;
            meshes |= column > 0 ? 1 << (GAPS * row + column - 1) : 0;
            return meshes;
        }

        /** What can be reached by THREADS of a set: KNOTS along them, or MESHES through them. */
        static int spread(int threads, int from, boolean overMeshes) {
            int reached = from;
            for (int round = 0; round < THREADS; round++) {
                int before = reached;
                for (int t = 0; t < THREADS; t++) {
                    if ((threads >>> t & 1) != 0) {
                        int joined = overMeshes ? meshesBeside(t) : endsOf(t);
                        reached |= (reached & joined) != 0 ? joined : 0;
                    }
                }
                if (reached == before) {
                    return reached;
                }
            }
            return reached;
        }

        static int threadsAt(int threads, int knots) {
            int found = 0;
            for (int t = 0; t < THREADS; t++) {
                if ((threads >>> t & 1) != 0 && (endsOf(t) & knots) != 0) {
                    found |= 1 << t;
                }
            }
            return found;
        }

        static int knotsOf(int threads) {
            int knots = 0;
            for (int t = 0; t < THREADS; t++) {
                knots |= (threads >>> t & 1) != 0 ? endsOf(t) : 0;
            }
            return knots;
        }

        static int oddKnots(int threads) {
            int odd = 0;
            for (int t = 0; t < THREADS; t++) {
                odd ^= (threads >>> t & 1) != 0 ? endsOf(t) : 0;
            }
            return odd;
        }

        /** The least number of a set, or -1 of the empty one. */
        static int firstOf(int set) {
            for (int i = 0; i < THREADS; i++) {
                if ((set >>> i & 1) != 0) {
                    return i;
                }
            }
            return -1;
        }

        /** Those of a set that hang together with the least of them. */
        static int firstHole(int threads) {
            int first = firstOf(threads);
            return first < 0 ? 0 : threadsAt(threads, spread(threads, endsOf(first), false));
        }

        static int holesIn(int threads) {
            int holes = 0;
            int rest = threads;
            for (int i = 0; i < THREADS && rest != 0; i++) {
                rest &= ~firstHole(rest);
                holes++;
            }
            return holes;
        }

        static int holeAt(int threads, int place) {
            int rest = threads;
            for (int i = 0; i < place && rest != 0; i++) {
                rest &= ~firstHole(rest);
            }
            return firstHole(rest);
        }

        static int greatestOpening(int threads) {
            int greatest = 1;
            for (int mesh = 0; mesh < MESHES; mesh++) {
                greatest = Math.max(greatest, Integer.bitCount(spread(threads, 1 << mesh, true)));
            }
            return greatest;
        }
    }

    /** KNOTS, THREADS, the DAY, and the TEXTS by which DAYS go by. */
    private static final class Net {
        static final int THREAD_FACTS = 6;

        private final int[] kinds = new int[KNOTS];
        private final int[] numbers = new int[KNOTS];
        private final int[] tiers = new int[KNOTS];
        private final int[] tiedOn = new int[KNOTS];
        private final int[] worn = new int[THREADS];
        private final int[] cameOn = new int[THREADS];
        private final int[] held = new int[KNOTS];
        private final Law holdsLaw = new Law();
        private final Law wearsLaw = new Law();
        private int missing = 0;
        private int day = 0;

        Net() {
            for (int k = 0; k < KNOTS; k++) {
                numbers[k] = 5;
            }
        }

        void become(Net other) {
            System.arraycopy(other.kinds, 0, kinds, 0, KNOTS);
            System.arraycopy(other.numbers, 0, numbers, 0, KNOTS);
            System.arraycopy(other.tiers, 0, tiers, 0, KNOTS);
            System.arraycopy(other.tiedOn, 0, tiedOn, 0, KNOTS);
            System.arraycopy(other.worn, 0, worn, 0, THREADS);
            System.arraycopy(other.cameOn, 0, cameOn, 0, THREADS);
            holdsLaw.become(other.holdsLaw);
            wearsLaw.become(other.wearsLaw);
            missing = other.missing;
            day = other.day;
        }

        Law lawOf(int use) {
            return use == WEARS_USE ? wearsLaw : holdsLaw;
        }

        void tieAnew(int knot, int hand) {
            tiers[knot] = hand;
            tiedOn[knot] = day;
        }

        int holdsOf(int knot) {
            int m = numbers[knot];
            int since = day - tiedOn[knot];
            int asKnot = 20 + m;
            int asSlip = asKnot / 2 - Math.min(since, 9);
            int asDouble = 2 * asKnot;
            int holds;
            switch (kinds[knot]) {
                case SLIP:
                    holds = asSlip;
                    break;
                case DOUBLE:
                    holds = asDouble;
                    break;
                case FLAT:
                    holds = 10;
                    break;
                case LEFT:
                    holds = asSlip + m;
                    break;
                case GRANNY:
                    holds = asDouble - 15;
                    break;
                case TOLD:
                    holds = holdsLaw.isThere() ? holdsLaw.worth(m, since, tiers[knot]) : asKnot;
                    break;
                default:
                    holds = asKnot;
            }
            return heldWithin(holds, 0, MOST_HOLDS);
        }

        int wearsOf(int thread) {
            if (!wearsLaw.isThere()) {
                return 1;
            }
            return heldWithin(wearsLaw.worth(thread, worn[thread], day - cameOn[thread]), 0, MOST_WEARS);
        }

        int strengthOf(int thread) {
            return holdsOf(Grid.lesserKnot(thread)) + holdsOf(Grid.greaterKnot(thread)) - worn[thread];
        }

        int threadFact(int thread, int what) {
            switch (what) {
                case 0:
                    return isMissing(thread) ? 0 : 1;
                case 1:
                    return worn[thread];
                case 2:
                    return cameOn[thread];
                case 3:
                    return strengthOf(thread);
                case 4:
                    return Grid.lesserKnot(thread);
                default:
                    return Grid.greaterKnot(thread);
            }
        }

        boolean isMissing(int thread) {
            return (missing >>> thread & 1) != 0;
        }

        int missingThreads() {
            return Integer.bitCount(missing);
        }

        int firstThreads() {
            int first = 0;
            for (int t = 0; t < THREADS; t++) {
                if (!isMissing(t) && cameOn[t] == 0) {
                    first++;
                }
            }
            return first;
        }

        int wornInAll() {
            int sum = 0;
            for (int t = 0; t < THREADS; t++) {
                sum += worn[t];
            }
            return sum;
        }

        void lose(int thread) {
            missing |= 1 << thread;
            worn[thread] = 0;
        }

        void renew(int thread) {
            missing &= ~(1 << thread);
            worn[thread] = 0;
            cameOn[thread] = day;
        }

        void renewAll() {
            for (int t = 0; t < THREADS; t++) {
                if (!isMissing(t)) {
                    renew(t);
                }
            }
        }

        void passDays(int n) {
            for (int i = 0; i < n; i++) {
                passDay();
            }
        }

        void passDay() {
            for (int t = 0; t < THREADS; t++) {
                if (!isMissing(t)) {
                    worn[t] = Math.min(MOST_WORN, worn[t] + wearsOf(t));
                }
            }
            for (int k = 0; k < KNOTS; k++) {
                held[k] = holdsOf(k);
            }
            for (int t = 0; t < THREADS; t++) {
                int holds = held[Grid.lesserKnot(t)] + held[Grid.greaterKnot(t)];
                if (!isMissing(t) && holds <= worn[t]) {
                    lose(t);
                }
            }
            day++;
        }

        /** The place of the first number of a SHEET with which no RUN goes on; its size if all is well. */
        int runStops(Sheet row) {
            int left = missing;
            for (int i = 0; i < row.size; i++) {
                if (!isBelow(row.numbers[i], KNOTS)) {
                    return i;
                }
                if (i > 0) {
                    int thread = Grid.between(row.numbers[i - 1], row.numbers[i]);
                    if (thread < 0 || (left >>> thread & 1) == 0) {
                        return i;
                    }
                    left &= ~(1 << thread);
                }
            }
            return row.size;
        }

        /** What a RUN takes that doesn't stop. */
        int ellsOfRun(Sheet row) {
            int ells = 0;
            for (int i = 1; i < row.size; i++) {
                int knot = row.numbers[i];
                ells += isBelow(knot, KNOTS) ? 2 + Kinds.takesOf(kinds[knot]) : 0;
            }
            return ells;
        }

        void mendRun(Sheet row, int hand) {
            for (int i = 1; i < row.size; i++) {
                int thread = Grid.between(row.numbers[i - 1], row.numbers[i]);
                if (thread >= 0) {
                    renew(thread);
                    tieAnew(row.numbers[i], hand);
                }
            }
        }
    }

    /** All that an IMAGE keeps. */
    private static final class Quay {
        private final Net net = new Net();
        private final int[] speeds = new int[MEN];
        private final int[] tape = new int[TAPE_BYTES];
        private final int[] waiting = new int[MOST_WAITING];
        private int taped = 0;
        private int waits = 0;
        private int ells = 100;
        private int z = 1;

        Quay() {
            for (int i = 0; i < MEN; i++) {
                speeds[i] = 5;
            }
        }

        void become(Quay other) {
            net.become(other.net);
            System.arraycopy(other.speeds, 0, speeds, 0, MEN);
            System.arraycopy(other.tape, 0, tape, 0, TAPE_BYTES);
            System.arraycopy(other.waiting, 0, waiting, 0, MOST_WAITING);
            taped = other.taped;
            waits = other.waits;
            ells = other.ells;
            z = other.z;
        }

        int nextDraw() {
            z = z * 1103515245 + 12345;
            return z >>> 8;
        }
    }

    /** A TEXT as it is worked out: what stands left and right ahead of what joins them. */
    private static final class Law {
        static final int FIRST_NAME = -1;
        static final int SECOND_NAME = -2;
        static final int THIRD_NAME = -3;

        // NUMBERS as they are, NAMES by the numbers above, signs as minus their bytes.
        private final int[] items = new int[TAPE_BYTES];
        private final int[] stack = new int[TAPE_BYTES];
        private int length = 0;

        boolean isThere() {
            return length > 0;
        }

        void forget() {
            length = 0;
        }

        void become(Law other) {
            System.arraycopy(other.items, 0, items, 0, TAPE_BYTES);
            length = other.length;
        }

        void add(int item) {
            if (length < TAPE_BYTES) {
                items[length] = item;
                length++;
            }
        }

        int worth(int first, int second, int third) {
            int top = 0;
            for (int i = 0; i < length; i++) {
                int item = items[i];
                if (item >= THIRD_NAME) {
                    if (top < TAPE_BYTES) {
                        stack[top] = valueOf(item, first, second, third);
                        top++;
                    }
                } else if (item == -'!') {
                    if (top >= 1) {
                        stack[top - 1] = stack[top - 1] == 0 ? 1 : 0;
                    }
                } else if (top >= 2) {
                    top--;
                    stack[top - 1] = join(stack[top - 1], -item, stack[top]);
                }
            }
            return stack[0];
        }

        private static int valueOf(int item, int first, int second, int third) {
            switch (item) {
                case FIRST_NAME:
                    return first;
                case SECOND_NAME:
                    return second;
                case THIRD_NAME:
                    return third;
                default:
                    return item;
            }
        }

        private static int join(int a, int sign, int b) {
            switch (sign) {
                case '|':
                    return a != 0 || b != 0 ? 1 : 0;
                case '&':
                    return a != 0 && b != 0 ? 1 : 0;
                case '<':
                    return a < b ? 1 : 0;
                case '=':
                    return a == b ? 1 : 0;
                case '>':
                    return a > b ? 1 : 0;
                case '+':
                    return a + b;
                case '-':
                    return a - b;
                case '*':
                    return a * b;
                case '/':
                    return b == 0 ? 0 : a / b;
                default:
                    return b == 0 ? 0 : a % b;
            }
        }
    }

    /** Reads a TEXT byte by byte; signs wait on a stack until what stands right of them is read. */
    private static final class TextReader {
        static final int NO_FAULT = -1;
        private static final int MOST_OPEN = 5;
        private static final int MOST_DIGITS = 4;
        private static final int COMPARES = 3;

        private final Law law = new Law();
        private final int[] signs = new int[TAPE_BYTES];
        private int stacked = 0;
        private int opened = 0;
        private boolean wantsValue = true;

        /** Leaves the TEXT in law, or answers the FAULT. */
        int read(int[] tape, int length, int use) {
            law.forget();
            stacked = 0;
            opened = 0;
            wantsValue = true;
            int at = 0;
            while (at < length) {
                int taken = wantsValue ? takeValue(tape, length, at, use) : takeSign(tape[at]);
                if (taken <= 0) {
                    return at;
                }
                at += taken;
            }
            if (wantsValue || opened > 0) {
                return length;
            }
            settle(0);
            return NO_FAULT;
        }

        /** How many bytes are taken where a Q begins; 0 for a FAULT. */
        private int takeValue(int[] tape, int length, int at, int use) {
            int sign = tape[at];
            if (sign == '!' || sign == '(') {
                if (opened >= MOST_OPEN) {
                    return 0;
                }
                opened++;
                push(sign);
                return 1;
            }
            int taken = 1;
            int item = nameOf(sign, use);
            if (item == 0) {
                taken = 0;
                while (taken < MOST_DIGITS && at + taken < length && isDigit(tape[at + taken])) {
                    item = 10 * item + tape[at + taken] - '0';
                    taken++;
                }
            }
            if (taken > 0) {
                law.add(item);
                endValue();
            }
            return taken;
        }

        /** How many bytes are taken behind a Q; 0 for a FAULT. */
        private int takeSign(int sign) {
            if (sign == ')') {
                settle(1);
                if (stacked == 0) {
                    return 0;
                }
                stacked--;
                opened--;
                endValue();
                return 1;
            }
            int rank = rankOf(sign);
            if (rank == 0) {
                return 0;
            }
            settle(rank == COMPARES ? rank + 1 : rank);
            if (rank == COMPARES && stacked > 0 && rankOf(signs[stacked - 1]) == COMPARES) {
                return 0;
            }
            push(sign);
            wantsValue = true;
            return 1;
        }

        private void push(int sign) {
            if (stacked < TAPE_BYTES) {
                signs[stacked] = sign;
                stacked++;
            }
        }

        /** A Q is read: each ! right ahead of it has what it asked for. */
        private void endValue() {
            wantsValue = false;
            while (stacked > 0 && signs[stacked - 1] == '!') {
                stacked--;
                opened--;
                law.add(-'!');
            }
        }

        /** Signs that bind as tightly as rank, or more so, have both their sides. */
        private void settle(int rank) {
            while (stacked > 0 && rankOf(signs[stacked - 1]) >= rank) {
                stacked--;
                law.add(-signs[stacked]);
            }
        }

        private static boolean isDigit(int sign) {
            return sign >= '0' && sign <= '9';
        }

        /** How tightly a sign between two values binds; 0 for any other byte, '(' too. */
        private static int rankOf(int sign) {
            switch (sign) {
                case '|':
                    return 1;
                case '&':
                    return 2;
                case '<':
                case '=':
                case '>':
                    return COMPARES;
                case '+':
                case '-':
                    return 4;
                case '*':
                case '/':
                case '%':
                    return 5;
                default:
                    return 0;
            }
        }

        /** The item of a NAME that the USE knows, or 0. */
        private static int nameOf(int sign, int use) {
            boolean holds = use == HOLDS_USE;
            if (sign == (holds ? 'm' : 't')) {
                return Law.FIRST_NAME;
            }
            if (sign == (holds ? 'd' : 'w')) {
                return Law.SECOND_NAME;
            }
            return sign == (holds ? 'h' : 'a') ? Law.THIRD_NAME : 0;
        }
    }

    /** RUNS through MISSING THREADS, and what must be cut for ONE RUN. */
    private static final class Mending {
        static final int NO_CUTS = -1;

        private final int[] chosen = new int[MOST_CUTS];

        static boolean isOneRun(int threads) {
            return isOneRunBy(threads, Grid.oddKnots(threads));
        }

        private static boolean isOneRunBy(int threads, int odd) {
            int ends = Integer.bitCount(odd);
            return threads != 0 && (ends == 0 || ends == 2) && Grid.firstHole(threads) == threads;
        }

        /** How many CUTS, which are chosen then; NO_CUTS if there are none that do. */
        int fewestCuts(int missing) {
            if (missing == 0) {
                return NO_CUTS;
            }
            int odd = Grid.oddKnots(missing);
            for (int n = 0; n <= MOST_CUTS; n++) {
                if (choose(chosen, 0, n, 0, missing, odd)) {
                    return n;
                }
            }
            return NO_CUTS;
        }

        /** Whether cuts from a THREAD on do for the places up to n; the first that do stand there then. */
        private static boolean choose(int[] cut, int place, int n, int from, int threads, int odd) {
            if (place >= n || place >= cut.length) {
                return isOneRunBy(threads, odd);
            }
            for (int t = from; t < THREADS; t++) {
                if ((threads >>> t & 1) == 0
                        && choose(cut, place + 1, n, t + 1, threads | 1 << t, odd ^ Grid.endsOf(t))) {
                    cut[place] = t;
                    return true;
                }
            }
            return false;
        }

        /** The i-th KNOT of the first RUN through a set of THREADS that is ONE RUN. */
        static int wayKnot(int threads, int i) {
            int odd = Grid.oddKnots(threads);
            int at = Grid.firstOf(odd != 0 ? odd : Grid.knotsOf(threads));
            int rest = threads;
            for (int step = 0; step < i && rest != 0; step++) {
                int next = nextKnot(rest, at);
                int thread = Grid.between(at, next);
                if (thread < 0) {
                    return at;
                }
                rest &= ~(1 << thread);
                at = next;
            }
            return at;
        }

        /** The least KNOT to go to so that all the rest still hangs on it. */
        private static int nextKnot(int rest, int at) {
            for (int next = 0; next < KNOTS; next++) {
                int thread = Grid.between(at, next);
                if (thread >= 0 && (rest >>> thread & 1) != 0) {
                    int left = rest & ~(1 << thread);
                    if (Grid.threadsAt(left, Grid.spread(left, 1 << next, false)) == left) {
                        return next;
                    }
                }
            }
            return -1;
        }
    }

    /** Who mends which HOLE, so that all are mended soonest. */
    private static final class Hour {
        private final int[] sizes = new int[HOUR_HOLES];
        private final int[] tried = new int[HOUR_HOLES];
        private final int[] who = new int[HOUR_HOLES];
        private final int[] busy = new int[MEN];
        private int least = 0;

        /** Finds least and who for a number of HOLES that is no more than HOUR_HOLES. */
        void plan(int missing, int holes, int[] speeds) {
            int n = Math.min(holes, HOUR_HOLES);
            int rows = 1;
            for (int i = 0; i < n; i++) {
                sizes[i] = Integer.bitCount(Grid.holeAt(missing, i));
                rows *= MEN;
            }
            least = THREADS * MOST_SPEED + 1;
            for (int row = 0; row < rows; row++) {
                int rest = row;
                for (int i = n - 1; i >= 0; i--) {
                    tried[i] = rest % MEN;
                    rest /= MEN;
                }
                int minutes = minutesOfTried(n, speeds);
                if (minutes < least) {
                    least = minutes;
                    System.arraycopy(tried, 0, who, 0, n);
                }
            }
        }

        private int minutesOfTried(int n, int[] speeds) {
            for (int man = 0; man < MEN; man++) {
                busy[man] = 0;
            }
            int longest = 0;
            for (int i = 0; i < n; i++) {
                int man = tried[i];
                busy[man] += sizes[i] * speeds[man];
                longest = Math.max(longest, busy[man]);
            }
            return longest;
        }
    }

    /** VOICES: which BODY of which KIND speaks, and THE TRACE of those that did. */
    private static final class Voices {
        static final int VOICES = 4;
        private static final int HOLDS = 0;
        private static final int SLIPS = 1;
        private static final int TIES = 2;
        private static final int PARTS = 3;
        private static final int MOST_TRACED = 30;
        private static final int MOST_DEEP = 40;
        /** By KIND, for each VOICE its BODY there; 0 for none. */
        private static final int[] BODIES = {
            10, 11, 12, 13,
            20, 0, 0, 21,
            0, 30, 0, 0,
            0, 0, 40, 0,
            50, 0, 51, 0,
            0, 60, 0, 0,
            70, 71, 0, 0
        };

        private final int[] trace = new int[MOST_TRACED];
        private int traced = 0;
        private boolean parted = false;
        private int kind = KNOT;
        private int m = 0;
        private int k = 0;

        int hear(int ofKind, int ofM, int knot, int voice, int x) {
            kind = ofKind;
            m = ofM;
            k = knot;
            traced = 0;
            parted = false;
            return speak(kind, voice, x, 0);
        }

        /** A VOICE by the first BODY for it from a KIND upwards. */
        private int speak(int from, int voice, int x, int depth) {
            int at = from;
            for (int i = 0; i < KINDS && at != NO_KIND; i++) {
                int place = VOICES * at + voice;
                if (place < 0 || place >= BODIES.length) {
                    return 0;
                }
                if (BODIES[place] != 0) {
                    return bodySays(BODIES[place], Kinds.above(at), x, depth);
                }
                at = Kinds.above(at);
            }
            return 0;
        }

        /** What a BODY gives; above is the KIND from which its super goes on. */
        private int bodySays(int number, int above, int x, int depth) {
            if (depth > MOST_DEEP) {
                return 0;
            }
            if (traced < MOST_TRACED) {
                trace[traced] = number;
                traced++;
            }
            int deeper = depth + 1;
            switch (number) {
                case 10:
                    return x + k;
                case 11:
                    return speak(kind, HOLDS, x, deeper) * 2;
                case 12:
                    return speak(kind, SLIPS, x, deeper) - m;
                case 13:
                    parted = m == k;
                    return parted ? 0 : x / (m - k);
                case 20:
                    return speak(above, HOLDS, x, deeper) - 8;
                case 21:
                    int left = speak(above, PARTS, x, deeper);
                    return parted ? 0 : left + speak(kind, SLIPS, 1, deeper);
                case 30:
                    return 0 - speak(above, SLIPS, x, deeper);
                case 40:
                    return speak(above, TIES, x / 2, deeper);
                case 50:
                    return speak(above, HOLDS, x, deeper) * 3;
                case 51:
                    return speak(above, TIES, x, deeper) ^ k;
                case 60:
                    return speak(above, SLIPS, x + 1, deeper);
                case 70:
                    return 4;
                default:
                    return speak(above, SLIPS, x, deeper) + m;
            }
        }
    }

    /** A row of numbers; of no bits while it is missing. */
    private static final class Sheet {
        private final int[] numbers = new int[SHEET_NUMBERS];
        private int bits = 0;
        private int size = 0;

        boolean isMissing() {
            return bits == 0;
        }

        void begin(int newBits, int newSize) {
            bits = newBits;
            size = newSize;
            for (int i = 0; i < SHEET_NUMBERS; i++) {
                numbers[i] = 0;
            }
        }

        void write(int i, int v) {
            numbers[i] = bits == 32 ? v : v & ((1 << bits) - 1);
        }

        /** Compared this way round, no sum of two ints can wrap. */
        boolean hasStretch(int i, int n) {
            return i >= 0 && n >= 0 && n <= size && i <= size - n;
        }
    }
}
