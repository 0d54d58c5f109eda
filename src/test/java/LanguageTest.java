import java.lang.reflect.Array;
import java.lang.reflect.Constructor;
import java.lang.reflect.Field;
import java.lang.reflect.Method;
import java.lang.reflect.Modifier;
import java.nio.charset.StandardCharsets;
import java.nio.file.Files;
import java.nio.file.Path;
import java.util.ArrayList;
import java.util.Arrays;
import java.util.HashSet;
import java.util.List;
import java.util.Random;
import java.util.Set;
import java.util.TreeSet;
import java.util.regex.Matcher;
import java.util.regex.Pattern;

/** The rules of LANGUAGE.md that a look at NetMender.java and its classes can tell, and the public face. */
public final class LanguageTest {
    private static final String[] FACE = {
        "int tie(int, int, int)", "int knotIs(int, int)", "int as(int, int)", "int threadIs(int, int)", "int cut(int)",
        "int wear(int, int)", "int twine(int)", "int speed(int, int)", "int feed(long, int)", "int text(int)",
        "int untell(int)", "int run(int, int)", "int odd(int)", "int cuts(int)", "int way(int)", "int hole(int)",
        "int open()", "int minutes(int)", "int days(int)", "int draws(int)", "int seed(int)", "int then(int, int, int)",
        "int goes(int, int)", "int mendAhead(int, int)", "int hands(int, int)", "long swimsOut(int)",
        "int voice(int, int, int)", "int body(int)", "int sheet(int, int, int)", "int put(int, int, int)",
        "int move(int, int, int, int, int)", "int cutAll(int)", "int judge(int)", "int image()", "int restore()",
        "int tell(int)", "int check()", "int count(int)", "int told(int)"
    };
    private static final int MOST_LINES = 60;
    private static final int MOST_PARAMETERS = 7;
    private static final int MOST_CLASSES = 12;
    private static final int MOST_FIELDS = 20;
    private static final int MANY_CALLS = 300000;
    private static final int CALLS_OF_ONE = 3000;
    /** A room holds some 600,000 objects and 7.3 million fields and elements: a thousand nets are far below. */
    private static final int MOST_OBJECTS = 200;
    private static final int MOST_ELEMENTS = 5000;

    private static int wrong = 0;

    public static void main(String[] args) throws Exception {
        Path root = Path.of(args.length > 0 ? args[0] : ".");
        String source = bare(Files.readString(root.resolve("src/main/java/NetMender.java")));
        face();
        for (Class<?> c : classes()) {
            members(c);
        }
        words(source);
        newOnlyWhenMade(source);
        methodLengths(source);
        neverThrows();
        room();
        System.out.println(wrong == 0 ? "the rules are kept" : wrong + " rules are broken");
        if (wrong != 0) {
            System.exit(1);
        }
    }

    private static void due(boolean fine, String rule) {
        if (!fine) {
            wrong++;
            System.out.println(rule);
        }
    }

    private static List<Class<?>> classes() {
        List<Class<?>> all = new ArrayList<>(List.of(NetMender.class));
        for (int i = 0; i < all.size(); i++) {
            all.addAll(List.of(all.get(i).getDeclaredClasses()));
        }
        return all;
    }

    private static void face() {
        int type = NetMender.class.getModifiers();
        due(Modifier.isPublic(type) && Modifier.isFinal(type), "1: NetMender is not public and final");
        due(NetMender.class.getPackageName().isEmpty(), "1: NetMender stands in a package");
        Constructor<?>[] made = NetMender.class.getDeclaredConstructors();
        due(made.length == 1 && Modifier.isPublic(made[0].getModifiers()) && made[0].getParameterCount() == 0,
                "1: there is not the public constructor alone");
        Set<String> want = new TreeSet<>(List.of(FACE));
        Set<String> got = new TreeSet<>();
        for (Method m : NetMender.class.getDeclaredMethods()) {
            if (!Modifier.isPrivate(m.getModifiers())) {
                List<String> types = new ArrayList<>();
                for (Class<?> p : m.getParameterTypes()) {
                    types.add(p.getName());
                }
                got.add(m.getReturnType().getName() + " " + m.getName() + "(" + String.join(", ", types) + ")");
                due(!Modifier.isStatic(m.getModifiers()), "1: " + m + " is static");
            }
        }
        due(want.equals(got), "1: the face is " + got);
        for (Field f : NetMender.class.getDeclaredFields()) {
            due(Modifier.isPrivate(f.getModifiers()), "1: " + f + " can be seen");
        }
    }

    private static void members(Class<?> c) {
        due(c == NetMender.class || Modifier.isStatic(c.getModifiers()), "2: " + c + " is not static");
        Set<String> face = new HashSet<>();
        for (Method m : NetMender.class.getMethods()) {
            face.add(m.getName());
        }
        for (Method m : c.getDeclaredMethods()) {
            due(!m.isSynthetic(), "2: " + m + " comes of a lambda or the like");
            due(m.getParameterCount() <= MOST_PARAMETERS, "11: " + m + " takes too many parameters");
            boolean ofFace = c == NetMender.class && Modifier.isPublic(m.getModifiers());
            due(ofFace || !face.contains(m.getName()), "1: " + m + " bears the name of a public method");
        }
        int fields = 0;
        for (Field f : c.getDeclaredFields()) {
            due(!Modifier.isStatic(f.getModifiers()) || Modifier.isFinal(f.getModifiers()), "5: " + f + " is not final");
            fields += Modifier.isStatic(f.getModifiers()) ? 0 : 1;
        }
        due(fields <= MOST_FIELDS, "11: " + c + " has too many fields");
        due(classes().size() <= MOST_CLASSES, "11: there are too many classes");
    }

    /** The source without comments and the insides of signs in quotes. */
    private static String bare(String source) {
        return source.replaceAll("(?s)/\\*.*?\\*/", "").replaceAll("//[^\n]*", "").replaceAll("'(\\\\.|[^'])'", "'x'");
    }

    private static void words(String source) {
        String[] banned = {
            "throw", "throws", "try", "catch", "finally", "synchronized", "assert", "import", "package", "Object",
            "Math\\.\\w+Exact", "equals", "hashCode", "Thread", "Class", "Float", "Double", "Boolean", "Character",
            "Byte", "Short", "Void", "record", "sealed", "yield", "var", "native", "volatile", "transient", "strictfp"
        };
        for (String word : banned) {
            due(!Pattern.compile("\\b" + word + "\\b").matcher(source).find(), "6: the source says " + word);
        }
        due(!source.contains("->"), "2: the source has a lambda");
        due(!source.contains("::"), "2: the source has a method reference");
        due(!source.contains("\""), "3: the source has a text");
        Matcher system = Pattern.compile("\\bSystem\\.(\\w+)").matcher(source);
        while (system.find()) {
            due(system.group(1).equals("arraycopy"), "4: the source says System." + system.group(1));
        }
        for (int i = 0; i < source.length(); i++) {
            due(source.charAt(i) < 128, "3: the source has a sign above 127");
        }
    }

    /** Rule 12, and the room that all calls live in: no call makes an object. */
    private static void newOnlyWhenMade(String source) {
        for (String line : source.split("\n")) {
            boolean field = line.matches("\\s*private final [\\w\\[\\]]+ \\w+ = new .*;");
            boolean sheet = line.trim().equals("sheets[i] = new Sheet();");
            due(field || sheet || !line.matches(".*\\bnew\\b.*"), "12: an object is made by " + line.trim());
        }
    }

    /** Rule 7: whatever is asked for, in whatever state, and behind the 512th call, too. */
    private static void neverThrows() {
        Random draw = new Random(7);
        int[] wild = {Integer.MIN_VALUE, Integer.MIN_VALUE + 1, -1000000001, -60, -1, 0, 1, 2, 3, 4, 5, 7, 8, 9, 15, 16, 17,
            19, 20, 24, 30, 31, 32, 33, 40, 41, 60, 61, 63, 69, 99, 100, 255, 9999, 1 << 16, Integer.MAX_VALUE};
        byte[] signs = "mdhtwa0123456789+-*/%<=>|&!()".getBytes(StandardCharsets.US_ASCII);
        NetMender x = new NetMender();
        String call = "feed";
        for (int i = 0; i < MANY_CALLS; i++) {
            if (i % CALLS_OF_ONE == 0) {
                x = new NetMender();
            }
            // Some calls in a row, as what is kept must be full at times.
            if (draw.nextInt(8) == 0) {
                call = Calls.FACE[draw.nextInt(Calls.FACE.length)].split(" ")[0];
            }
            long[] v = new long[5];
            for (int k = 0; k < v.length; k++) {
                v[k] = draw.nextBoolean() ? wild[draw.nextInt(wild.length)] : draw.nextInt(4);
            }
            if (call.equals("feed")) {
                v[0] = signs[draw.nextInt(signs.length)] << 8 | signs[draw.nextInt(signs.length)];
            }
            try {
                Calls.make(x, call, v);
            } catch (RuntimeException | StackOverflowError e) {
                due(false, "7: " + call + Arrays.toString(v) + " threw " + e);
            }
        }
    }

    /** Rule 12: what a new object holds. As no call makes one, it holds no more later. */
    private static void room() throws IllegalAccessException {
        List<Object> held = new ArrayList<>(List.of(new NetMender()));
        int elements = 0;
        for (int i = 0; i < held.size(); i++) {
            Object one = held.get(i);
            List<Object> parts = new ArrayList<>();
            if (one.getClass().isArray()) {
                elements += Array.getLength(one);
                parts.addAll(one instanceof Object[] row ? List.of(row) : List.of());
            } else {
                for (Field f : one.getClass().getDeclaredFields()) {
                    f.setAccessible(true);
                    elements += Modifier.isStatic(f.getModifiers()) ? 0 : 1;
                    if (!f.getType().isPrimitive()) {
                        parts.add(f.get(one));
                    }
                }
            }
            for (Object part : parts) {
                due(part != null, "7: " + one.getClass() + " holds null");
                if (part != null && held.stream().noneMatch(known -> known == part)) {
                    held.add(part);
                }
            }
        }
        due(held.size() > 1 && held.size() <= MOST_OBJECTS, "12: a new object holds " + held.size() + " objects");
        due(elements > 1 && elements <= MOST_ELEMENTS, "12: a new object holds " + elements + " fields and elements");
    }

    private static void methodLengths(String source) {
        String[] lines = source.split("\n");
        for (int i = 0; i < lines.length; i++) {
            if (lines[i].matches("\\s*(public |private |static )*[\\w\\[\\]]+ \\w+\\([^;]*\\{") && !lines[i].contains(" else ")) {
                String indent = lines[i].substring(0, lines[i].length() - lines[i].stripLeading().length());
                int end = i;
                while (!lines[end].equals(indent + "}")) {
                    end++;
                }
                due(end - i < MOST_LINES, "11: too long: " + lines[i].trim());
            }
        }
    }
}
