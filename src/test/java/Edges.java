import java.io.IOException;
import java.nio.file.Files;
import java.nio.file.Path;
import java.util.ArrayList;
import java.util.List;

/**
 * Sentences of the document that name a boundary case, each shown by calls on a new object.
 *
 * <p>A row is a call with the answer that is due, or without one, if it only leads up to the case:
 * <pre>
 *   cut(0) -> 1                      a number; what only looks like an ERROR is a number, too
 *   cut(0) -> STATE                  an ERROR, by its name
 *   cut(1) -> FINE                   anything that is no ERROR
 *   wear(0, MAX)                     MIN and MAX are the ends of the ints
 *   0..2: speed(#, 7) -> 5           for each number from 0 to 2
 *   0..2: count(1#) -> 4 5 6         with an answer for each
 *   TAPE m+1                         the bytes come to THE TAPE
 *   ROW 0 8 5 6 7                    SHEET 0 of 8 bits is 5, 6, 7
 *   CUT 0 1 2                        these THREADS are cut
 * </pre>
 *
 * <p>Every edge is played twice: a twin is spared the calls that are refused, and must look the same at the end, as
 * "one that answers an ERROR changes nothing but what told() tells". An edge that leaves no calls for the look at the end
 * (512 is the most) goes without it.
 */
final class Edges {
    private static final long LOW = -1000000000L;
    private static final String[] ERRORS = {"", "BEYOND", "NONE", "STATE", "FULL", "KIND", "PARTED"};
    private static final int PARTED = 6;
    private static final int MOST_CALLS = 512;
    private static final int LOOK_CALLS = 300;

    private final String document;
    private final List<String> sentences = new ArrayList<>();
    private final List<Integer> promises = new ArrayList<>();
    private int asked = 0;
    private int wrong = 0;

    private String name = "";
    private NetMender net;
    private NetMender twin;
    private int calls = 0;
    private int[] refused = new int[ERRORS.length];
    private boolean failed = false;

    /** The sentences are looked for in the document, if it stands where the project's root says. */
    Edges(String root) throws IOException {
        Path path = Path.of(root, "..", "shared", "DOC.md");
        document = Files.isRegularFile(path) ? squeezed(Files.readString(path)) : null;
    }

    static String squeezed(String text) {
        return text.replaceAll("\\s+", " ");
    }

    /** A promise, what the document says, and the rows that show it. */
    void edge(int promise, String sentence, String... rows) {
        name = "promise " + promise + ", \"" + sentence + "\"";
        net = new NetMender();
        twin = new NetMender();
        calls = 0;
        refused = new int[ERRORS.length];
        failed = false;
        asked++;
        promises.add(promise);
        sentences.add(squeezed(sentence));
        if (promise < 1 || promise > 40) {
            fail("there is no such promise");
        }
        if (document != null && !document.contains(squeezed(sentence))) {
            fail("the document does not say so");
        }
        int answers = 0;
        for (String row : rows) {
            answers += row.contains(" -> ") ? 1 : 0;
            try {
                play(row);
            } catch (RuntimeException e) {
                fail(row + " threw " + e);
            }
        }
        if (answers == 0) {
            fail("it asks for no answer");
        }
        if (calls > MOST_CALLS) {
            fail("it makes more than " + MOST_CALLS + " calls");
        }
        if (!failed && calls + LOOK_CALLS <= MOST_CALLS) {
            look();
        }
        wrong += failed ? 1 : 0;
    }

    /** An edge for the least and the most of a number, which stands in the call as @, and for what is beyond. */
    void bounds(int promise, String sentence, String call, int least, int most, String... first) {
        List<String> rows = new ArrayList<>(List.of(first));
        rows.add(call.replace("@", String.valueOf(least - 1)) + " -> BEYOND");
        rows.add(call.replace("@", String.valueOf(most + 1)) + " -> BEYOND");
        rows.add(call.replace("@", "MIN") + " -> BEYOND");
        rows.add(call.replace("@", "MAX") + " -> BEYOND");
        rows.add(call.replace("@", String.valueOf(least)) + " -> FINE");
        rows.add(call.replace("@", String.valueOf(most)) + " -> FINE");
        edge(promise, sentence, rows.toArray(new String[0]));
    }

    /** What the edges up to now have quoted, and of which promises, one for one. */
    List<String> sentences() {
        return sentences;
    }

    List<Integer> promises() {
        return promises;
    }

    /** Tells how it went, and ends the program if something is wrong. */
    void end() {
        System.out.println(wrong == 0 ? asked + " edges hold" : wrong + " of " + asked + " edges do not hold");
        if (wrong != 0) {
            System.exit(1);
        }
    }

    private void fail(String what) {
        failed = true;
        System.out.println(name + ": " + what);
    }

    // ---- rows

    private void play(String row) {
        String[] words = row.split(" ");
        switch (words[0]) {
            case "TAPE":
                tape(words[1]);
                break;
            case "ROW":
                sheet(words);
                break;
            case "CUT":
                for (int i = 1; i < words.length; i++) {
                    make("cut", "", Long.parseLong(words[i]));
                }
                break;
            default:
                asks(row);
        }
    }

    private void tape(String bytes) {
        for (int at = 0; at < bytes.length(); at += 8) {
            int n = Math.min(8, bytes.length() - at);
            long word = 0;
            for (int i = n - 1; i >= 0; i--) {
                word = word << 8 | bytes.charAt(at + i);
            }
            make("feed", "", word, n);
        }
    }

    private void sheet(String[] words) {
        long sheet = Long.parseLong(words[1]);
        make("sheet", "", sheet, Long.parseLong(words[2]), words.length - 3);
        for (int i = 3; i < words.length; i++) {
            if (!words[i].equals("0")) {
                make("put", "", sheet, i - 3, Long.parseLong(words[i]));
            }
        }
    }

    private void asks(String row) {
        int arrow = row.indexOf(" -> ");
        String call = arrow < 0 ? row : row.substring(0, arrow);
        String[] due = arrow < 0 ? new String[] {""} : row.substring(arrow + 4).split(" ");
        int first = 0;
        int last = 0;
        if (call.contains(": ")) {
            String[] range = call.substring(0, call.indexOf(": ")).split("\\.\\.");
            first = Integer.parseInt(range[0]);
            last = Integer.parseInt(range[1]);
            call = call.substring(call.indexOf(": ") + 2);
        }
        if (due.length != 1 && due.length != last - first + 1) {
            fail(row + ": there is not an answer for each");
        }
        for (int i = first; i <= last && !failed; i++) {
            String one = call.replace("#", String.valueOf(i));
            make(one.substring(0, one.indexOf('(')), due[due.length == 1 ? 0 : i - first], numbers(one));
        }
    }

    private static long[] numbers(String call) {
        String inside = call.substring(call.indexOf('(') + 1, call.indexOf(')'));
        if (inside.isEmpty()) {
            return new long[0];
        }
        String[] words = inside.split(", ");
        long[] v = new long[words.length];
        for (int i = 0; i < v.length; i++) {
            v[i] = words[i].equals("MIN") ? Integer.MIN_VALUE
                    : words[i].equals("MAX") ? Integer.MAX_VALUE : number(words[i]);
        }
        return v;
    }

    private static long number(String word) {
        return word.startsWith("0x") ? Long.parseLong(word.substring(2), 16) : Long.parseLong(word);
    }

    private static int errorOf(String due) {
        for (int k = 1; k < ERRORS.length; k++) {
            if (ERRORS[k].equals(due)) {
                return k;
            }
        }
        return 0;
    }

    private void make(String call, String due, long... v) {
        calls++;
        int error = errorOf(due);
        long got = Calls.make(net, call, v);
        // THE TRACE tells of a voice() that PARTED, too.
        if (error == 0 || error == PARTED) {
            Calls.make(twin, call, v);
        }
        refused[error]++;
        if (due.isEmpty()) {
            return;
        }
        boolean fine = due.equals("FINE");
        long want = fine ? Math.max(got, LOW) : error == 0 ? number(due) : LOW - error;
        if (got != want) {
            StringBuilder told = new StringBuilder(call).append('(');
            for (int i = 0; i < v.length; i++) {
                told.append(i > 0 ? ", " : "").append(v[i]);
            }
            fail(told + ") answered " + got + ", due is " + due);
        }
    }

    // ---- what can be seen at the end

    private void look() {
        for (int k = 1; k < ERRORS.length; k++) {
            long got = net.told(k);
            if (got != refused[k]) {
                fail("told(" + k + ") answered " + got + ", due is " + refused[k]);
            }
            twin.told(k);
        }
        List<Long> now = seen(net);
        List<Long> spared = seen(twin);
        if (!now.equals(spared)) {
            fail("what was refused has changed something: it looks like " + now + ", due is " + spared);
        }
    }

    private static List<Long> seen(NetMender x) {
        List<Long> all = new ArrayList<>();
        all(all, x, "body", 8);
        all(all, x, "count", 12);
        for (int k = 0; k < 20; k++) {
            for (int what = 0; what < 5; what++) {
                all.add(Calls.make(x, "knotIs", k, what));
            }
        }
        for (int t = 0; t < 31; t++) {
            for (int what = 0; what < 3; what++) {
                all.add(Calls.make(x, "threadIs", t, what));
            }
        }
        all(all, x, "judge", 4);
        for (int s = 0; s < 4; s++) {
            all.add(Calls.make(x, "move", s, 0, (s + 1) % 4, 0, 0));
            all.add(Calls.make(x, "put", s, 39, 0));
        }
        all(all, x, "run", 4);
        all(all, x, "cutAll", 4);
        all.add(Calls.make(x, "check"));
        all(all, x, "untell", 2);
        all.add(Calls.make(x, "restore"));
        all(all, x, "count", 12);
        all(all, x, "untell", 2);
        all.add(Calls.make(x, "image"));
        return all;
    }

    private static void all(List<Long> seen, NetMender x, String call, int numbers) {
        for (int i = 0; i < numbers; i++) {
            seen.add(Calls.make(x, call, i));
        }
    }
}
