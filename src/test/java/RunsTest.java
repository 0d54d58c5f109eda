import java.util.ArrayList;
import java.util.List;
import java.util.Random;

/** Made-up runs of calls, the same ones each time, answered as NetModel does. */
public final class RunsTest {
    private static final int MOST_CALLS = 512;
    private static int wrong = 0;
    private static long made = 0;

    private final Random draw;
    private final int seed;
    private final NetMender x = new NetMender();
    private final NetModel model = new NetModel();
    private final List<String> log = new ArrayList<>();
    private int calls = 0;
    private boolean failed = false;

    private RunsTest(int seed) {
        this.seed = seed;
        this.draw = new Random(seed);
    }

    public static void main(String[] args) {
        int runs = args.length > 1 ? Integer.parseInt(args[1]) : 3000;
        int first = args.length > 2 ? Integer.parseInt(args[2]) : 1;
        for (int seed = first; seed < first + runs && wrong < 5; seed++) {
            new RunsTest(seed).play();
        }
        System.out.println(wrong == 0 ? "all answers of " + made + " calls agree" : wrong + " runs disagree");
        if (wrong != 0) {
            System.exit(1);
        }
    }

    private void play() {
        int most = 20 + draw.nextInt(MOST_CALLS - 20);
        int wild = draw.nextInt(4) == 0 ? 30 : 4;
        int pace = draw.nextInt(3);
        if (draw.nextInt(3) == 0) {
            rings();
        }
        while (calls < most && !failed) {
            act(wild, pace);
        }
        look();
    }

    private void act(int wild, int pace) {
        switch (draw.nextInt(24)) {
            case 0:
                law();
                break;
            case 1:
                walk();
                break;
            case 2:
                tellRight();
                break;
            case 3:
                cutSome();
                break;
            case 4:
                judgeRight();
                break;
            case 5:
                ask("way", calls % 30);
                ask("way", draw.nextInt(6));
                break;
            case 6:
                ask("minutes", -1);
                ask("minutes", draw.nextInt(6));
                ask("cuts", draw.nextInt(4) - 1);
                break;
            case 7:
                ask("tie", draw.nextInt(20), 60 + draw.nextInt(10), draw.nextInt(5));
                break;
            case 8:
                ask("wear", draw.nextInt(31), draw.nextInt(60));
                break;
            default:
                single(wild, pace);
        }
    }

    private void single(int wild, int pace) {
        String[] parts = Calls.FACE[draw.nextInt(Calls.FACE.length)].split(" ");
        // A net of which nothing is left tells little.
        boolean heavy = parts[0].equals("days") || parts[0].equals("draws");
        if (heavy && draw.nextInt(4) > pace) {
            ask(parts[0], 1 + draw.nextInt(2));
            return;
        }
        String letters = parts.length > 1 ? parts[1] : "";
        long[] v = new long[letters.length()];
        for (int i = 0; i < v.length; i++) {
            v[i] = argument(letters.charAt(i), wild);
        }
        ask(parts[0], v);
    }

    private long argument(char letter, int wild) {
        int least = "sn".indexOf(letter) >= 0 ? 1 : "qQ".indexOf(letter) >= 0 ? -1 : 0;
        int most = mostOf(letter);
        if (letter == 'L') {
            return draw.nextInt(3) == 0 ? draw.nextLong() : text(8);
        }
        if (letter == 'x') {
            return draw.nextInt(3) == 0 ? draw.nextInt() : draw.nextInt(60) - 20;
        }
        if (letter == 'b' && draw.nextInt(20) != 0) {
            return 8 * draw.nextInt(3) * (1 + draw.nextInt(2));
        }
        int how = draw.nextInt(100);
        if (how < wild) {
            int[] far = {Integer.MIN_VALUE, Integer.MAX_VALUE, draw.nextInt(), Integer.MIN_VALUE + 1, -1000000001, 1 << 16};
            return far[draw.nextInt(far.length)];
        }
        if (how < wild + 6) {
            int[] edge = {least - 1, least, most, most + 1};
            return edge[draw.nextInt(edge.length)];
        }
        return least + draw.nextInt(most - least + 1);
    }

    private int mostOf(char letter) {
        switch (letter) {
            case 'k': return 19;
            case 'K': return 6;
            case 'm': return 69;
            case 'h': return 4;
            case 't': return 30;
            case 'w': return 99;
            case 'e': return 9999;
            case 'a': return 2;
            case 's': return draw.nextInt(2) == 0 ? 8 : 30;
            case 'n': case 'N': return draw.nextInt(2) == 0 ? 60 : 9;
            case 'D': return draw.nextInt(3) == 0 ? 9999 : 40;
            case 'S': return 3;
            case 'b': return 32;
            case 'z': return draw.nextInt(2) == 0 ? 40 : 6;
            case 'i': return draw.nextInt(2) == 0 ? 40 : 6;
            case 'c': return 31;
            case 'q': return 2;
            case 'Q': return 6;
            case 'A': return 11;
            default: return letter >= '0' && letter <= '9' ? letter - '0' : 9;
        }
    }

    private long ask(String call, long... v) {
        if (calls >= MOST_CALLS || failed) {
            return 0;
        }
        calls++;
        made++;
        long want = model.answer(call, v);
        long got = Calls.make(x, call, v);
        StringBuilder line = new StringBuilder(call).append('(');
        for (int i = 0; i < v.length; i++) {
            line.append(i > 0 ? ", " : "").append(v[i]);
        }
        log.add(line.append(") ").append(got).toString());
        if (got != want) {
            wrong++;
            failed = true;
            for (String told : log) {
                System.out.println(told);
            }
            System.out.println("run " + seed + ": the last answer is wrong, due is " + want);
        }
        return want;
    }

    // ---- whole acts

    private long text(int most) {
        String bytes = expression(3, draw.nextInt(2), most);
        long word = 0;
        for (int i = Math.min(8, bytes.length()) - 1; i >= 0; i--) {
            word = word << 8 | bytes.charAt(i);
        }
        return word;
    }

    private void law() {
        int use = draw.nextInt(2);
        String bytes = expression(4, use, 60);
        if (draw.nextInt(3) == 0 && !bytes.isEmpty()) {
            int at = draw.nextInt(bytes.length());
            String signs = "()!|&<=>+-*/%09mdhtwax \u00e9";
            char sign = signs.charAt(draw.nextInt(signs.length()));
            int how = draw.nextInt(3);
            bytes = bytes.substring(0, at) + (how == 0 ? "" : sign) + bytes.substring(how == 1 ? at : at + 1);
        }
        ask("text", use);
        for (int at = 0; at < bytes.length(); at += 8) {
            int n = Math.min(8, bytes.length() - at);
            long word = draw.nextInt(2) == 0 || n == 8 ? 0 : draw.nextLong() << (8 * n);
            for (int i = n - 1; i >= 0; i--) {
                word |= (long) bytes.charAt(at + i) << (8 * i);
            }
            ask("feed", word, n);
        }
        ask("text", use);
    }

    private String expression(int deep, int use, int most) {
        String made = inner(deep, use);
        return made.length() > most ? made.substring(0, most) : made;
    }

    private String inner(int deep, int use) {
        String names = use == 0 ? "mdh" : "twa";
        int how = draw.nextInt(deep > 0 ? 10 : 4);
        if (how < 2) {
            return String.valueOf(draw.nextInt(4) == 0 ? draw.nextInt(10000) : draw.nextInt(30));
        }
        if (how < 4) {
            return String.valueOf(names.charAt(draw.nextInt(3)));
        }
        if (how == 4) {
            return "!" + inner(deep - 1, use);
        }
        if (how == 5) {
            return "(" + inner(deep - 1, use) + ")";
        }
        String signs = "|&<=>+-*/%+-*/%";
        return inner(deep - 1, use) + signs.charAt(draw.nextInt(signs.length())) + inner(deep - 1, use);
    }

    /** A RUN that often goes: along MISSING THREADS from a KNOT on. */
    private void walk() {
        int sheet = draw.nextInt(4);
        boolean first = draw.nextInt(2) == 0 && model.answer("odd", 1) == 1;
        List<Integer> row = new ArrayList<>();
        if (first) {
            for (int i = 0; i <= model.answer("count", 1); i++) {
                row.add((int) model.answer("way", i));
            }
        } else {
            List<Integer> left = new ArrayList<>();
            for (int t = 0; t < 31; t++) {
                if (model.answer("threadIs", t, 0) == 0 || draw.nextInt(30) == 0) {
                    left.add(t);
                }
            }
            int at = draw.nextInt(20);
            row.add(at);
            for (int tries = 0; tries < 60 && !left.isEmpty(); tries++) {
                int place = draw.nextInt(left.size());
                int a = (int) model.answer("threadIs", left.get(place), 4);
                int b = (int) model.answer("threadIs", left.get(place), 5);
                if (a == at || b == at || row.size() == 1) {
                    row.set(row.size() - 1, a == at || row.size() == 1 && b != at ? a : b);
                    at = row.get(row.size() - 1) == a ? b : a;
                    row.add(at);
                    left.remove(place);
                }
            }
        }
        int size = Math.min(40, Math.max(1, row.size() - draw.nextInt(2)));
        ask("sheet", sheet, 8 << draw.nextInt(3), size);
        for (int i = 0; i < size; i++) {
            ask("put", sheet, i, row.get(i));
        }
        if (draw.nextInt(4) == 0) {
            ask("twine", draw.nextInt(3 * size));
        } else if (draw.nextInt(2) == 0) {
            ask("twine", 200);
        }
        ask("run", sheet, draw.nextInt(5));
    }

    private void tellRight() {
        int n = 1 + draw.nextInt(8);
        ask("check");
        for (int i = 1; i <= n; i++) {
            int missing = 0;
            for (int t = 0; t < 31; t++) {
                missing += model.answer("then", i, t, 0) == 0 ? 1 : 0;
            }
            ask("tell", draw.nextInt(12) == 0 ? missing + 1 : missing);
        }
        if (draw.nextInt(5) != 0) {
            ask("check");
        }
    }

    private void cutSome() {
        int t = draw.nextInt(31);
        int n = 1 + draw.nextInt(5);
        for (int i = 0; i < n; i++) {
            ask("cut", t);
            int[] near = {1, 4, 5, 15, 16, 11, 20};
            t = draw.nextInt(3) == 0 ? draw.nextInt(31) : (t + near[draw.nextInt(near.length)]) % 31;
        }
        ask("odd", 0);
        ask("odd", 1);
        ask("cuts", -1);
        ask("way", draw.nextInt(n + 1));
        ask("open");
    }

    /** The edges of some MESHES, each edge that two of them share left WHOLE, and now and then a tail. */
    private void rings() {
        long threads = 0;
        int meshes = 1 + draw.nextInt(6);
        for (int i = 0; i < meshes; i++) {
            int row = draw.nextInt(3);
            int column = draw.nextInt(4);
            int above = 4 * row + column;
            int left = 16 + 5 * row + column;
            threads ^= 1L << above | 1L << (above + 4) | 1L << left | 1L << (left + 1);
        }
        if (draw.nextInt(3) == 0) {
            threads ^= 1L << draw.nextInt(31);
        }
        for (int t = 0; t < 31; t++) {
            if ((threads >>> t & 1) != 0) {
                ask("cut", t);
            }
        }
        ask("odd", 0);
        ask("odd", 1);
        for (int i = -1; i < 3; i++) {
            ask("cuts", i);
        }
        for (int i = 0; i <= Long.bitCount(threads) + 1; i++) {
            ask("way", i);
        }
        ask("minutes", -1);
        ask("open");
        if (draw.nextInt(2) == 0) {
            walk();
        }
    }

    private void judgeRight() {
        int sheet = draw.nextInt(4);
        int n = draw.nextInt(41);
        ask("sheet", sheet, 8, n);
        for (int t = 0; t < Math.min(31, n); t++) {
            long worn = model.answer("threadIs", t, 1);
            if (worn != 0) {
                ask("put", sheet, t, worn);
            }
        }
        ask("judge", sheet);
    }

    /** All that can be asked of the end of a run without changing it. */
    private void look() {
        for (int k = 0; k < 20; k++) {
            ask("knotIs", k, draw.nextInt(7));
        }
        for (int t = 0; t < 31; t++) {
            ask("threadIs", t, draw.nextInt(4));
        }
        for (int what = 0; what < 12; what++) {
            ask("count", what);
        }
        for (int k = 1; k <= 6; k++) {
            ask("told", k);
        }
        for (int i = 0; i < 7; i++) {
            ask("body", i);
        }
    }
}
