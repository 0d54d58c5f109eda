import java.util.ArrayDeque;
import java.util.ArrayList;
import java.util.Arrays;
import java.util.HashMap;
import java.util.HashSet;
import java.util.List;
import java.util.Map;
import java.util.Set;
import java.util.TreeMap;
import java.util.TreeSet;

/**
 * The document told a second time, as naively as can be and with the Java library, to check NetMender against.
 * Errors are thrown here, and answered by ask().
 */
final class NetModel {
    static final long LOW = -1000000000L;

    static final class Refused extends RuntimeException {
        final int k;

        Refused(int k) {
            super(null, null, false, false);
            this.k = k;
        }
    }

    private static final int BEYOND = 1;
    private static final int NONE = 2;
    private static final int STATE = 3;
    private static final int FULL = 4;
    private static final int KIND = 5;
    private static final int PARTED = 6;

    private static void ask(boolean fine, int k) {
        if (!fine) {
            throw new Refused(k);
        }
    }

    // ---- voices: the KINDS as classes, just as the document words them

    private static class Knot {
        int k;
        int m = 5;
        int hand;
        int tied;
        List<Integer> trace = new ArrayList<>();

        int holdsNow(int day, Law law) {
            return 20 + m;
        }

        int takes() {
            return 1;
        }

        void begin(int body) {
            trace.add(body);
        }

        int holds(int x) {
            begin(10);
            return x + k;
        }

        int slips(int x) {
            begin(11);
            return holds(x) * 2;
        }

        int ties(int x) {
            begin(12);
            return slips(x) - m;
        }

        int parts(int x) {
            begin(13);
            ask(m != k, PARTED);
            return x / (m - k);
        }
    }

    private static class Slip extends Knot {
        @Override int holdsNow(int day, Law law) {
            return super.holdsNow(day, law) / 2 - Math.min(9, day - tied);
        }

        @Override int holds(int x) {
            begin(20);
            return super.holds(x) - 8;
        }

        @Override int parts(int x) {
            begin(21);
            return super.parts(x) + slips(1);
        }
    }

    private static class Double extends Knot {
        @Override int holdsNow(int day, Law law) {
            return 2 * super.holdsNow(day, law);
        }

        @Override int takes() {
            return 2;
        }

        @Override int slips(int x) {
            begin(30);
            return 0 - super.slips(x);
        }
    }

    private static class Flat extends Knot {
        @Override int holdsNow(int day, Law law) {
            return 10;
        }

        @Override int ties(int x) {
            begin(40);
            return super.ties(x / 2);
        }
    }

    private static class Left extends Slip {
        @Override int holdsNow(int day, Law law) {
            return super.holdsNow(day, law) + m;
        }

        @Override int takes() {
            return 2 * super.takes();
        }

        @Override int holds(int x) {
            begin(50);
            return super.holds(x) * 3;
        }

        @Override int ties(int x) {
            begin(51);
            return super.ties(x) ^ k;
        }
    }

    private static class Granny extends Double {
        @Override int holdsNow(int day, Law law) {
            return super.holdsNow(day, law) - 15;
        }

        @Override int slips(int x) {
            begin(60);
            return super.slips(x + 1);
        }
    }

    private static class Told extends Knot {
        @Override int holdsNow(int day, Law law) {
            if (law == null) {
                return super.holdsNow(day, law);
            }
            return law.value(Map.of('m', m, 'd', day - tied, 'h', hand));
        }

        @Override int holds(int x) {
            begin(70);
            return 4;
        }

        @Override int slips(int x) {
            begin(71);
            return super.slips(x) + m;
        }
    }

    private static final List<Class<?>> KINDS = List.of(
            Knot.class, Slip.class, Double.class, Flat.class, Left.class, Granny.class, Told.class);

    private static Knot newKnot(int kind) {
        switch (kind) {
            case 1: return new Slip();
            case 2: return new Double();
            case 3: return new Flat();
            case 4: return new Left();
            case 5: return new Granny();
            case 6: return new Told();
            default: return new Knot();
        }
    }

    private static int kindOf(Knot knot) {
        return KINDS.indexOf(knot.getClass());
    }

    // ---- texts, by recursive descent; a fault is thrown

    interface Law {
        int value(Map<Character, Integer> names);
    }

    static final class Fault extends RuntimeException {
        final int place;

        Fault(int place) {
            super(null, null, false, false);
            this.place = place;
        }
    }

    private static final class Parser {
        final List<Integer> bytes;
        final String names;
        int at = 0;

        Parser(List<Integer> bytes, String names) {
            this.bytes = bytes;
            this.names = names;
        }

        boolean sees(String any) {
            return at < bytes.size() && bytes.get(at) < 128 && any.indexOf((char) (int) bytes.get(at)) >= 0;
        }

        char next() {
            return (char) (int) bytes.get(at++);
        }

        static int truth(boolean b) {
            return b ? 1 : 0;
        }

        Law t(int open) {
            Law left = a(open);
            while (sees("|")) {
                next();
                Law l = left;
                Law r = a(open);
                left = v -> truth(l.value(v) != 0 | r.value(v) != 0);
            }
            return left;
        }

        Law a(int open) {
            Law left = b(open);
            while (sees("&")) {
                next();
                Law l = left;
                Law r = b(open);
                left = v -> truth(l.value(v) != 0 & r.value(v) != 0);
            }
            return left;
        }

        Law b(int open) {
            Law l = s(open);
            if (!sees("<=>")) {
                return l;
            }
            char sign = next();
            Law r = s(open);
            switch (sign) {
                case '<': return v -> truth(l.value(v) < r.value(v));
                case '=': return v -> truth(l.value(v) == r.value(v));
                default: return v -> truth(l.value(v) > r.value(v));
            }
        }

        Law s(int open) {
            Law left = p(open);
            while (sees("+-")) {
                boolean plus = next() == '+';
                Law l = left;
                Law r = p(open);
                left = v -> plus ? l.value(v) + r.value(v) : l.value(v) - r.value(v);
            }
            return left;
        }

        Law p(int open) {
            Law left = q(open);
            while (sees("*/%")) {
                char sign = next();
                Law l = left;
                Law r = q(open);
                left = v -> {
                    int x = l.value(v);
                    int y = r.value(v);
                    if (sign == '*') {
                        return x * y;
                    }
                    if (y == 0) {
                        return 0;
                    }
                    return sign == '/' ? (int) ((long) x / y) : (int) ((long) x % y);
                };
            }
            return left;
        }

        Law q(int open) {
            if (sees("0123456789")) {
                StringBuilder digits = new StringBuilder();
                while (digits.length() < 4 && sees("0123456789")) {
                    digits.append(next());
                }
                int number = Integer.parseInt(digits.toString());
                return v -> number;
            }
            if (sees(names)) {
                char name = next();
                return v -> v.get(name);
            }
            if (open < 5 && sees("!")) {
                next();
                Law of = q(open + 1);
                return v -> truth(of.value(v) == 0);
            }
            if (open < 5 && sees("(")) {
                next();
                Law of = t(open + 1);
                if (!sees(")")) {
                    throw new Fault(at);
                }
                next();
                return of;
            }
            throw new Fault(at);
        }

        Law whole() {
            Law law = t(0);
            if (at < bytes.size()) {
                throw new Fault(at);
            }
            return law;
        }
    }

    static Law lawFrom(List<Integer> bytes, int use) {
        return new Parser(bytes, use == 0 ? "mdh" : "twa").whole();
    }

    // ---- the net

    private static final class Thread {
        boolean whole = true;
        int worn;
        int day;
        int a;
        int b;

        Thread copy() {
            Thread t = new Thread();
            t.whole = whole;
            t.worn = worn;
            t.day = day;
            t.a = a;
            t.b = b;
            return t;
        }
    }

    private static final class State {
        Knot[] knots = new Knot[20];
        Thread[] threads = new Thread[31];
        int day;
        int twine = 100;
        int z = 1;
        int[] speeds = {5, 5, 5};
        Law[] laws = new Law[2];
        List<Integer> tape = new ArrayList<>();
        List<Integer> waiting = new ArrayList<>();

        State() {
            for (int i = 0; i < 20; i++) {
                knots[i] = new Knot();
                knots[i].k = i;
            }
            int t = 0;
            for (int row = 0; row < 4; row++) {
                for (int column = 0; column < 4; column++) {
                    threads[t++] = between(5 * row + column, 5 * row + column + 1);
                }
            }
            for (int row = 0; row < 3; row++) {
                for (int column = 0; column < 5; column++) {
                    threads[t++] = between(5 * row + column, 5 * row + column + 5);
                }
            }
        }

        static Thread between(int a, int b) {
            Thread t = new Thread();
            t.a = a;
            t.b = b;
            return t;
        }

        State copy() {
            State s = new State();
            for (int i = 0; i < 20; i++) {
                s.knots[i] = remade(knots[i], kindOf(knots[i]), knots[i].m);
            }
            for (int i = 0; i < 31; i++) {
                s.threads[i] = threads[i].copy();
            }
            s.day = day;
            s.twine = twine;
            s.z = z;
            s.speeds = speeds.clone();
            s.laws = laws.clone();
            s.tape = new ArrayList<>(tape);
            s.waiting = new ArrayList<>(waiting);
            return s;
        }

        int holds(int knot) {
            return Math.min(99, Math.max(0, knots[knot].holdsNow(day, laws[0])));
        }

        int strength(Thread t) {
            return holds(t.a) + holds(t.b) - t.worn;
        }

        void lose(Thread t) {
            t.whole = false;
            t.worn = 0;
        }

        void passDay() {
            for (int i = 0; i < 31; i++) {
                Thread t = threads[i];
                if (t.whole) {
                    int wears = laws[1] == null ? 1
                            : laws[1].value(Map.of('t', i, 'w', t.worn, 'a', day - t.day));
                    t.worn = Math.min(99, t.worn + Math.max(0, Math.min(20, wears)));
                }
            }
            for (Thread t : threads) {
                if (t.whole && strength(t) <= 0) {
                    lose(t);
                }
            }
            day++;
        }

        State ahead(int n) {
            State s = copy();
            for (int i = 0; i < n; i++) {
                s.passDay();
            }
            return s;
        }

        TreeSet<Integer> missing() {
            TreeSet<Integer> set = new TreeSet<>();
            for (int i = 0; i < 31; i++) {
                if (!threads[i].whole) {
                    set.add(i);
                }
            }
            return set;
        }
    }

    private static Knot remade(Knot old, int kind, int m) {
        Knot knot = newKnot(kind);
        knot.k = old.k;
        knot.m = m;
        knot.hand = old.hand;
        knot.tied = old.tied;
        return knot;
    }

    private static final class Sheet {
        int bits;
        long[] numbers;
    }

    private State s = new State();
    private State kept = null;
    private int images = 0;
    private final Sheet[] sheets = new Sheet[4];
    private List<Integer> trace = new ArrayList<>();
    private final int[] told = new int[7];

    // ---- mending, holes

    private Map<Integer, Integer> ends(Set<Integer> threads) {
        Map<Integer, Integer> ends = new TreeMap<>();
        for (int t : threads) {
            ends.merge(s.threads[t].a, 1, Integer::sum);
            ends.merge(s.threads[t].b, 1, Integer::sum);
        }
        return ends;
    }

    private List<Integer> oddKnots(Set<Integer> threads) {
        List<Integer> odd = new ArrayList<>();
        ends(threads).forEach((knot, n) -> {
            if (n % 2 == 1) {
                odd.add(knot);
            }
        });
        return odd;
    }

    private List<Set<Integer>> holes(Set<Integer> threads) {
        List<Set<Integer>> holes = new ArrayList<>();
        TreeSet<Integer> rest = new TreeSet<>(threads);
        while (!rest.isEmpty()) {
            Set<Integer> hole = new TreeSet<>();
            ArrayDeque<Integer> queue = new ArrayDeque<>();
            queue.add(rest.pollFirst());
            while (!queue.isEmpty()) {
                int t = queue.poll();
                hole.add(t);
                for (int u : new ArrayList<>(rest)) {
                    Thread x = s.threads[t];
                    Thread y = s.threads[u];
                    if (x.a == y.a || x.a == y.b || x.b == y.a || x.b == y.b) {
                        rest.remove(u);
                        queue.add(u);
                    }
                }
            }
            holes.add(hole);
        }
        return holes;
    }

    private boolean oneRun(Set<Integer> threads) {
        if (threads.isEmpty()) {
            return false;
        }
        int odd = oddKnots(threads).size();
        return (odd == 0 || odd == 2) && holes(threads).size() == 1;
    }

    private List<Integer> cutsNeeded() {
        TreeSet<Integer> missing = s.missing();
        if (missing.isEmpty()) {
            return null;
        }
        for (int n = 0; n <= 3; n++) {
            List<Integer> found = cutsFrom(missing, 0, n);
            if (found != null) {
                return found;
            }
        }
        return null;
    }

    private List<Integer> cutsFrom(TreeSet<Integer> missing, int from, int n) {
        if (n == 0) {
            return oneRun(missing) ? new ArrayList<>() : null;
        }
        for (int t = from; t < 31; t++) {
            if (!missing.contains(t)) {
                TreeSet<Integer> more = new TreeSet<>(missing);
                more.add(t);
                List<Integer> found = cutsFrom(more, t + 1, n - 1);
                if (found != null) {
                    found.add(0, t);
                    return found;
                }
            }
        }
        return null;
    }

    /** Tries every row of KNOTS in order; what has failed once is not tried again. */
    private List<Integer> firstRun(TreeSet<Integer> missing) {
        Set<String> failed = new HashSet<>();
        for (int start = 0; start < 20; start++) {
            List<Integer> row = new ArrayList<>();
            row.add(start);
            if (goOn(row, missing, failed)) {
                return row;
            }
        }
        return null;
    }

    private boolean goOn(List<Integer> row, TreeSet<Integer> rest, Set<String> failed) {
        if (rest.isEmpty()) {
            return true;
        }
        int at = row.get(row.size() - 1);
        String key = at + ":" + rest;
        if (failed.contains(key)) {
            return false;
        }
        TreeMap<Integer, Integer> next = new TreeMap<>();
        for (int t : rest) {
            if (s.threads[t].a == at) {
                next.put(s.threads[t].b, t);
            } else if (s.threads[t].b == at) {
                next.put(s.threads[t].a, t);
            }
        }
        for (Map.Entry<Integer, Integer> step : next.entrySet()) {
            TreeSet<Integer> left = new TreeSet<>(rest);
            left.remove(step.getValue());
            row.add(step.getKey());
            if (goOn(row, left, failed)) {
                return true;
            }
            row.remove(row.size() - 1);
        }
        failed.add(key);
        return false;
    }

    private int opening() {
        int[] group = new int[12];
        for (int i = 0; i < 12; i++) {
            group[i] = i;
        }
        for (int one = 0; one < 12; one++) {
            for (int other = one + 1; other < 12; other++) {
                int shared = -1;
                for (int t : meshThreads(one)) {
                    if (meshThreads(other).contains(t)) {
                        shared = t;
                    }
                }
                if (shared >= 0 && !s.threads[shared].whole) {
                    int from = group[other];
                    int to = group[one];
                    for (int i = 0; i < 12; i++) {
                        if (group[i] == from) {
                            group[i] = to;
                        }
                    }
                }
            }
        }
        Map<Integer, Integer> sizes = new HashMap<>();
        for (int g : group) {
            sizes.merge(g, 1, Integer::sum);
        }
        return sizes.values().stream().max(Integer::compare).get();
    }

    private List<Integer> meshThreads(int mesh) {
        int knot = mesh / 4 * 5 + mesh % 4;
        List<Integer> found = new ArrayList<>();
        for (int[] pair : new int[][] {{knot, knot + 1}, {knot + 5, knot + 6}, {knot, knot + 5}, {knot + 1, knot + 6}}) {
            for (int t = 0; t < 31; t++) {
                if (s.threads[t].a == pair[0] && s.threads[t].b == pair[1]) {
                    found.add(t);
                }
            }
        }
        return found;
    }

    /** LEAST MINUTES ahead, then who. */
    private List<Integer> plan() {
        List<Set<Integer>> holes = holes(s.missing());
        List<Integer> best = new ArrayList<>(List.of(Integer.MAX_VALUE));
        planFrom(holes, new ArrayList<>(), best);
        return best;
    }

    private void planFrom(List<Set<Integer>> holes, List<Integer> who, List<Integer> best) {
        if (who.size() == holes.size()) {
            int[] busy = new int[3];
            for (int i = 0; i < who.size(); i++) {
                busy[who.get(i)] += holes.get(i).size() * s.speeds[who.get(i)];
            }
            int most = Arrays.stream(busy).max().getAsInt();
            if (most < best.get(0)) {
                best.clear();
                best.add(most);
                best.addAll(who);
            }
            return;
        }
        for (int man = 0; man < 3; man++) {
            who.add(man);
            planFrom(holes, who, best);
            who.remove(who.size() - 1);
        }
    }

    // ---- the calls

    private static void within(long v, long least, long most) {
        ask(v >= least && v <= most, BEYOND);
    }

    private int threadFact(State at, int thread, int what) {
        Thread t = at.threads[thread];
        switch (what) {
            case 0: return t.whole ? 1 : 0;
            case 1: return t.worn;
            case 2: return t.day;
            case 3: return at.strength(t);
            case 4: return t.a;
            default: return t.b;
        }
    }

    private Sheet sheetToRead(int sheet) {
        within(sheet, 0, 3);
        ask(sheets[sheet] != null, NONE);
        return sheets[sheet];
    }

    /** The answer to a call by name; what is refused is counted, and answered as an ERROR. */
    long answer(String call, long... v) {
        try {
            int[] a = new int[v.length];
            for (int i = 0; i < v.length; i++) {
                a[i] = (int) v[i];
            }
            return work(call, v, a);
        } catch (Refused r) {
            told[r.k]++;
            return LOW - r.k;
        }
    }

    private long work(String call, long[] v, int[] a) {
        switch (call) {
            case "tie": case "knotIs": case "as": case "threadIs": case "cut": case "wear": case "twine": case "speed":
                return knotsAndThreads(call, a);
            case "feed": case "text": case "untell":
                return texts(call, v, a);
            case "run": case "odd": case "cuts": case "way": case "hole": case "open": case "minutes":
                return mending(call, a);
            case "days": case "draws": case "seed": case "then": case "goes": case "mendAhead":
                return days(call, a);
            case "sheet": case "put": case "move": case "cutAll": case "judge":
                return sheets(call, a);
            default:
                return others(call, a);
        }
    }

    private long knotsAndThreads(String call, int[] a) {
        switch (call) {
            case "tie": {
                within(a[0], 0, 19);
                within(a[1], 0, 69);
                within(a[2], 0, 4);
                Knot old = s.knots[a[0]];
                Knot tied = remade(old, a[1] / 10, a[1] % 10);
                tied.hand = a[2];
                tied.tied = s.day;
                s.knots[a[0]] = tied;
                return 10 * kindOf(old) + old.m;
            }
            case "knotIs": {
                within(a[0], 0, 19);
                within(a[1], 0, 6);
                Knot knot = s.knots[a[0]];
                return List.of(kindOf(knot), knot.m, knot.hand, knot.tied, s.holds(a[0]), knot.takes(),
                        ends(s.missing()).getOrDefault(a[0], 0)).get(a[1]);
            }
            case "as":
                within(a[0], 0, 19);
                within(a[1], 0, 6);
                ask(KINDS.get(a[1]).isInstance(s.knots[a[0]]), KIND);
                return s.holds(a[0]);
            case "threadIs":
                within(a[0], 0, 30);
                within(a[1], 0, 5);
                return threadFact(s, a[0], a[1]);
            case "cut":
                within(a[0], 0, 30);
                ask(s.threads[a[0]].whole, STATE);
                s.lose(s.threads[a[0]]);
                return s.missing().size();
            case "wear": {
                within(a[0], 0, 30);
                within(a[1], 0, 99);
                ask(s.threads[a[0]].whole, STATE);
                int was = s.threads[a[0]].worn;
                s.threads[a[0]].worn = a[1];
                return was;
            }
            case "twine": {
                within(a[0], 0, 9999);
                int was = s.twine;
                s.twine = a[0];
                return was;
            }
            default: {
                within(a[0], 0, 2);
                within(a[1], 1, 30);
                int was = s.speeds[a[0]];
                s.speeds[a[0]] = a[1];
                return was;
            }
        }
    }

    private long texts(String call, long[] v, int[] a) {
        switch (call) {
            case "feed": {
                within(v[1], 1, 8);
                ask(s.tape.size() + a[1] <= 60, FULL);
                long word = v[0];
                for (int i = 0; i < a[1]; i++) {
                    s.tape.add((int) Math.floorMod(word, 256L));
                    word = Math.floorDiv(word, 256L);
                }
                return s.tape.size();
            }
            case "text":
                within(a[0], 0, 1);
                try {
                    s.laws[a[0]] = lawFrom(s.tape, a[0]);
                    return 1;
                } catch (Fault f) {
                    return -10 - f.place;
                } finally {
                    s.tape = new ArrayList<>();
                }
            default: {
                within(a[0], 0, 1);
                boolean was = s.laws[a[0]] != null;
                s.laws[a[0]] = null;
                return was ? 1 : 0;
            }
        }
    }

    private long mending(String call, int[] a) {
        TreeSet<Integer> missing = s.missing();
        switch (call) {
            case "run":
                return mendRun(a[0], a[1]);
            case "odd":
                within(a[0], 0, 1);
                return a[0] == 0 ? oddKnots(missing).size() : oneRun(missing) ? 1 : 0;
            case "cuts": {
                within(a[0], -1, 2);
                List<Integer> found = cutsNeeded();
                ask(found != null && a[0] < found.size(), NONE);
                return a[0] < 0 ? found.size() : found.get(a[0]);
            }
            case "way": {
                ask(a[0] >= 0, BEYOND);
                ask(oneRun(missing), STATE);
                List<Integer> row = firstRun(missing);
                ask(a[0] < row.size(), NONE);
                return row.get(a[0]);
            }
            case "hole": {
                ask(a[0] >= -1, BEYOND);
                List<Set<Integer>> holes = holes(missing);
                ask(a[0] < holes.size(), NONE);
                return a[0] < 0 ? holes.size() : holes.get(a[0]).size();
            }
            case "open":
                return opening();
            default: {
                ask(a[0] >= -1, BEYOND);
                int holes = holes(missing).size();
                ask(a[0] < holes, NONE);
                ask(holes <= 6, FULL);
                return plan().get(a[0] + 1);
            }
        }
    }

    private long mendRun(int sheet, int hand) {
        within(sheet, 0, 3);
        within(hand, 0, 4);
        ask(sheets[sheet] != null && sheets[sheet].numbers.length > 0, NONE);
        long[] row = sheets[sheet].numbers;
        State tried = s.copy();
        for (int i = 0; i < row.length; i++) {
            if (row[i] < 0 || row[i] > 19) {
                return -10 - i;
            }
            if (i == 0) {
                continue;
            }
            Thread found = null;
            for (Thread t : tried.threads) {
                if (!t.whole && (t.a == row[i] && t.b == row[i - 1] || t.b == row[i] && t.a == row[i - 1])) {
                    found = t;
                }
            }
            if (found == null) {
                return -10 - i;
            }
            found.whole = true;
            found.worn = 0;
            found.day = s.day;
            Knot knot = tried.knots[(int) row[i]];
            tried.twine -= 2 + knot.takes();
            knot.hand = hand;
            knot.tied = s.day;
        }
        ask(tried.twine >= 0, FULL);
        s = tried;
        return row.length - 1;
    }

    private long days(String call, int[] a) {
        switch (call) {
            case "days":
            case "draws":
                within(a[0], 1, 60);
                ask(s.day + a[0] <= 9999, STATE);
                for (int i = 0; i < a[0]; i++) {
                    if (call.equals("draws")) {
                        s.z = (int) (s.z * 1103515245L + 12345L);
                        s.lose(s.threads[(int) ((s.z & 0xffffffffL) / 256 % 31)]);
                    }
                    s.passDay();
                }
                return s.missing().size();
            case "seed": {
                int was = s.z;
                s.z = a[0];
                return was;
            }
            case "then":
                within(a[0], 0, 60);
                within(a[1], 0, 30);
                within(a[2], 0, 5);
                return threadFact(s.ahead(a[0]), a[1], a[2]);
            case "goes": {
                within(a[0], 1, 60);
                within(a[1], 0, 1);
                for (int n = 1; n <= a[0]; n++) {
                    TreeSet<Integer> gone = s.ahead(n).missing();
                    gone.removeAll(s.missing());
                    if (!gone.isEmpty()) {
                        return a[1] == 0 ? gone.first() : n;
                    }
                }
                throw new Refused(NONE);
            }
            default: {
                within(a[0], 1, 60);
                within(a[1], 0, 1);
                int best = -1;
                int fewest = 99;
                for (int t = 0; t < 31; t++) {
                    if (s.threads[t].whole) {
                        State other = s.copy();
                        other.threads[t].worn = 0;
                        other.threads[t].day = s.day;
                        int left = other.ahead(a[0]).missing().size();
                        if (left < fewest) {
                            fewest = left;
                            best = t;
                        }
                    }
                }
                ask(best >= 0, NONE);
                return a[1] == 0 ? best : fewest;
            }
        }
    }

    private long sheets(String call, int[] a) {
        switch (call) {
            case "sheet":
                within(a[0], 0, 3);
                ask(List.of(0, 8, 16, 32).contains(a[1]), BEYOND);
                if (a[1] == 0) {
                    sheets[a[0]] = null;
                    return 1;
                }
                ask(a[2] >= 0, STATE);
                within(a[2], 0, 40);
                sheets[a[0]] = new Sheet();
                sheets[a[0]].bits = a[1];
                sheets[a[0]].numbers = new long[a[2]];
                return 1;
            case "put": {
                Sheet sheet = sheetToRead(a[0]);
                within(a[1], 0, sheet.numbers.length - 1);
                sheet.numbers[a[1]] = Math.floorMod((long) a[2], 1L << sheet.bits);
                return 1;
            }
            case "move": {
                within(a[0], 0, 3);
                within(a[2], 0, 3);
                Sheet from = sheetToRead(a[0]);
                Sheet to = sheetToRead(a[2]);
                ask(from.bits == to.bits, KIND);
                ask(a[4] >= 0 && a[1] >= 0 && a[3] >= 0, BEYOND);
                ask((long) a[1] + a[4] <= from.numbers.length, BEYOND);
                ask((long) a[3] + a[4] <= to.numbers.length, BEYOND);
                long[] old = from.numbers.clone();
                for (int i = 0; i < a[4]; i++) {
                    to.numbers[a[3] + i] = old[a[1] + i];
                }
                return a[4];
            }
            case "cutAll": {
                int n = 0;
                for (long t : sheetToRead(a[0]).numbers) {
                    if (t < 0 || t > 30 || !s.threads[(int) t].whole) {
                        break;
                    }
                    s.lose(s.threads[(int) t]);
                    n++;
                }
                return n;
            }
            default: {
                long[] row = sheetToRead(a[0]).numbers;
                int i = 0;
                while (i < row.length && i < 31 && row[i] == s.threads[i].worn) {
                    i++;
                }
                return i;
            }
        }
    }

    private long others(String call, int[] a) {
        switch (call) {
            case "hands": {
                within(a[0], 0, 4);
                within(a[1], 0, 9999);
                return Arrays.stream(s.knots).filter(k -> k.hand == a[0] && k.tied >= a[1]).count();
            }
            case "swimsOut": {
                within(a[0], 0, 1);
                int above = s.missing().size();
                int below = 31;
                for (int d = 31; d > 1; d--) {
                    if (above % d == 0 && below % d == 0) {
                        above /= d;
                        below /= d;
                    }
                }
                return a[0] == 0 ? above : below;
            }
            case "voice":
                within(a[0], 0, 19);
                within(a[1], 0, 3);
                return speak(s.knots[a[0]], a[1], a[2]);
            case "body":
                ask(a[0] >= 0 && a[0] < Math.min(30, trace.size()), NONE);
                return trace.get(a[0]);
            case "image":
                kept = s.copy();
                return ++images;
            case "restore":
                ask(kept != null, NONE);
                s = kept.copy();
                return s.day;
            case "tell":
                ask(s.waiting.size() < 24, FULL);
                s.waiting.add(a[0]);
                return s.waiting.size();
            case "check": {
                List<Integer> waited = s.waiting;
                s.waiting = new ArrayList<>();
                for (int i = 0; i < waited.size(); i++) {
                    if (waited.get(i) != s.ahead(i + 1).missing().size()) {
                        return 1 + i;
                    }
                }
                return 0;
            }
            case "count":
                within(a[0], 0, 11);
                return counted(a[0]);
            case "told":
                within(a[0], 1, 6);
                return told[a[0]];
            default:
                throw new IllegalArgumentException(call);
        }
    }

    private long speak(Knot knot, int voice, int x) {
        knot.trace = new ArrayList<>();
        trace = knot.trace;
        switch (voice) {
            case 0: return knot.holds(x);
            case 1: return knot.slips(x);
            case 2: return knot.ties(x);
            default: return knot.parts(x);
        }
    }

    private long counted(int what) {
        switch (what) {
            case 0: return s.day;
            case 1: return s.missing().size();
            case 2: return Arrays.stream(s.threads).filter(t -> t.whole && t.day == 0).count();
            case 3: return s.twine;
            case 4: return Arrays.stream(s.threads).filter(t -> t.whole).mapToInt(t -> t.worn).sum();
            case 5: return s.tape.size();
            case 6: return s.waiting.size();
            case 7: return Math.min(30, trace.size());
            case 8: return s.z;
            default: return s.speeds[what - 9];
        }
    }
}
