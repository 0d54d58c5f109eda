import java.nio.file.Files;
import java.nio.file.Path;
import java.util.ArrayList;
import java.util.Arrays;
import java.util.List;
import java.util.Set;
import java.util.regex.Matcher;
import java.util.regex.Pattern;

/** The document as a whole: the class has its face and its headings, and the edges leave out none of its sentences. */
public final class DocumentTest {
    private static final int PROMISES = 40;
    /** What stands ahead of a sentence, or joins two, and says nothing by itself. */
    private static final Set<String> LABELS = Set.of("and", "KNOTS are of KINDS", "HOLDS (of a KNOT)", "A DAY goes by",
            "USES", "MENDING: a RUN of KNOTS", "OPEN of the NET: of", "THE HOUR", "VOICES of a KNOT", "BODIES: KNOT",
            "SLIP", "DOUBLE", "FLAT", "LEFT", "GRANNY", "TOLD");

    private static int wrong = 0;

    public static void main(String[] args) throws Exception {
        String root = args.length > 0 ? args[0] : ".";
        String document = Files.readString(Path.of(root, "..", "shared", "DOC.md"));
        String source = Files.readString(Path.of(root, "src", "main", "java", "NetMender.java"));
        face(document, source);
        headings(document, source);
        promises(document);
        Edges edges = new Edges(root);
        TermEdgesTest.play(edges);
        PromiseEdgesTest.play(edges);
        eachPromise(document, edges);
        eachSentence(document, edges);
        System.out.println(wrong == 0 ? "the document is kept to" : wrong + " things are not as the document has them");
        if (wrong != 0) {
            System.exit(1);
        }
    }

    private static void due(boolean fine, String what) {
        if (!fine) {
            wrong++;
            System.out.println(what);
        }
    }

    private static List<String> found(String regex, String text) {
        List<String> all = new ArrayList<>();
        Matcher m = Pattern.compile(regex).matcher(text);
        while (m.find()) {
            all.add(m.group(1));
        }
        return all;
    }

    private static List<String> documentFace(String document) {
        return found("(?m)^    public (.*);$", document);
    }

    private static void face(String document, String source) {
        List<String> want = documentFace(document);
        List<String> got = found("(?m)^    public (.*) \\{$", source);
        due(want.size() == PROMISES, "the document's face has " + want.size() + " lines, not " + PROMISES);
        due(want.equals(got), "\"The public face\" is " + want + ", that of the class " + got);
    }

    /** Which calls stand under which "---- ..": by the document's words, and by the comments of the class. */
    private static void headings(String document, String source) {
        List<String> want = new ArrayList<>();
        Matcher m = Pattern.compile("(?m)^Ahead of the calls (.*) the interface says: (---- .*)\\.$").matcher(document);
        while (m.find()) {
            want.add(m.group(2));
            want.addAll(found("`(\\w+)`", m.group(1)));
        }
        List<String> got = found("(?m)^    (?://|public \\w+) (---- .*|\\w+(?=\\(.*\\{$))", source);
        got.remove("NetMender");
        due(want.equals(got), "\"Ahead of the calls ..\": " + want + ", in the class " + got);
    }

    private static void promises(String document) {
        List<String> face = documentFace(document);
        for (int n = 1; n <= PROMISES && n <= face.size(); n++) {
            String section = section(document, n);
            due(section.startsWith("`" + face.get(n - 1) + "`: "), "promise " + n + " is not of " + face.get(n - 1));
        }
        due(section(document, PROMISES + 1).isEmpty(), "there are more than " + PROMISES + " promises");
    }

    /** What the document says under "Promise n", or nothing. */
    private static String section(String document, int n) {
        Matcher m = Pattern.compile("(?s)\n## Promise " + n + ": [^\n]*\n+(.*?)(?=\n## )").matcher(document);
        return m.find() ? m.group(1) : "";
    }

    private static String terms(String document) {
        Matcher m = Pattern.compile("(?s)\n## Terms\n(.*?)\nAhead of the calls ").matcher(document);
        String terms = m.find() ? m.group(1) : "";
        due(!terms.isEmpty(), "the document has no \"Terms\"");
        return terms.replaceAll("```(text)?", "").replaceAll("(?m)^[0-9]\\. ", "");
    }

    private static void eachPromise(String document, Edges edges) {
        for (int n = 1; n <= PROMISES; n++) {
            String section = Edges.squeezed(section(document, n));
            boolean shown = false;
            for (int i = 0; i < edges.promises().size(); i++) {
                shown |= edges.promises().get(i) == n && section.contains(edges.sentences().get(i));
            }
            due(shown, "no edge shows promise " + n);
        }
    }

    private static void eachSentence(String document, Edges edges) {
        quoted("An object is used for at most 512 calls after it has been made", edges);
        quoted(terms(document), edges);
        for (int n = 1; n <= PROMISES; n++) {
            quoted(section(document, n), edges);
        }
    }

    /** Tells what no edge quotes. */
    private static void quoted(String part, Edges edges) {
        String text = Edges.squeezed(part);
        char[] left = text.toCharArray();
        for (String sentence : edges.sentences()) {
            for (int at = text.indexOf(sentence); at >= 0; at = text.indexOf(sentence, at + 1)) {
                Arrays.fill(left, at, at + sentence.length(), '|');
            }
        }
        for (String piece : new String(left).split("\\|+")) {
            String words = piece.replaceFirst("^`.*`:", "").replaceAll("^[^A-Za-z0-9(]+|[^A-Za-z0-9)]+$", "");
            due(words.isEmpty() || words.equals(")") || LABELS.contains(words), "no edge quotes \"" + piece.trim() + "\"");
        }
    }
}
