import java.io.IOException;
import java.nio.file.FileVisitOption;
import java.nio.file.Files;
import java.nio.file.Path;
import java.util.ArrayList;
import java.util.Comparator;
import java.util.List;
import java.util.regex.Matcher;
import java.util.regex.Pattern;
import java.util.stream.Stream;

/** README.md: what it shows is done as it says, in a copy of the project; and it leaves out no call and no test. */
public final class ReadmeTest {
    private static int wrong = 0;

    public static void main(String[] args) throws Exception {
        Path root = Path.of(args.length > 0 ? args[0] : ".").toAbsolutePath();
        String readme = Files.readString(root.resolve("README.md"));
        List<String> texts = blocks(readme, "text");
        Path folder = Files.createTempDirectory("readme");
        try {
            Path copy = copied(root, folder);
            List<String> commands = blocks(readme, "sh");
            due(commands.size() == 3, "there are not the commands for a program, for a test, and for a shared one");
            program(blocks(readme, "java").get(0), copy);
            String printed = done(commands.get(0), copy);
            due(printed.equals(texts.get(0)), "the program printed\n" + printed);
            for (String command : commands.subList(1, commands.size())) {
                done(command, copy);
            }
        } finally {
            removed(folder);
        }
        picture(texts.get(1));
        calls(readme, Files.readString(root.resolve("src/main/java/NetMender.java")));
        files(readme, root);
        System.out.println(wrong == 0 ? "README.md holds" : wrong + " things in README.md do not hold");
        if (wrong != 0) {
            System.exit(1);
        }
    }

    private static void due(boolean fine, String what) {
        if (!fine) {
            wrong++;
            System.out.println(what);
        }
    }

    private static List<String> blocks(String readme, String kind) {
        List<String> all = new ArrayList<>();
        Matcher m = Pattern.compile("(?s)```" + kind + "\n(.*?)```").matcher(readme);
        while (m.find()) {
            all.add(m.group(1));
        }
        return all;
    }

    /** The project and what stands beside it, so that no command leaves anything in the project itself. */
    private static Path copied(Path root, Path folder) throws IOException {
        Path copy = folder.resolve("project");
        copyAll(root.resolve("src"), copy.resolve("src"));
        copyAll(root.resolve("..").resolve("shared").toRealPath(), folder.resolve("shared"));
        return copy;
    }

    private static void copyAll(Path from, Path to) throws IOException {
        List<Path> all;
        try (Stream<Path> walk = Files.walk(from, FileVisitOption.FOLLOW_LINKS)) {
            all = walk.toList();
        }
        for (Path path : all) {
            Path there = to.resolve(from.relativize(path).toString());
            if (Files.isDirectory(path)) {
                Files.createDirectories(there);
            } else {
                Files.write(there, Files.readAllBytes(path));
            }
        }
    }

    private static void removed(Path folder) throws IOException {
        List<Path> all;
        try (Stream<Path> walk = Files.walk(folder)) {
            all = walk.sorted(Comparator.reverseOrder()).toList();
        }
        for (Path path : all) {
            Files.delete(path);
        }
    }

    private static void program(String source, Path folder) throws IOException {
        Matcher m = Pattern.compile("public final class (\\w+)").matcher(source);
        due(m.find(), "the program has no class");
        Files.writeString(folder.resolve(m.group(1) + ".java"), source);
    }

    /** What commands print, when all of them go well. */
    private static String done(String commands, Path folder) throws IOException, InterruptedException {
        Process process = new ProcessBuilder("sh", "-e", "-c", commands).directory(folder.toFile())
                .redirectErrorStream(true).start();
        process.getOutputStream().close();
        String printed = new String(process.getInputStream().readAllBytes());
        due(process.waitFor() == 0, "this went wrong:\n" + commands + printed);
        return printed;
    }

    /** KNOTS and THREADS lie as they are drawn. */
    private static void picture(String drawn) {
        NetMender net = new NetMender();
        int[] above = null;
        int[] columns = null;
        int threads = 0;
        for (String line : drawn.replaceAll("\\[.*?\\]", "").split("\n")) {
            int[] n = numbers(line);
            if (line.contains("--")) {
                for (int i = 1; i + 1 < n.length; i += 2) {
                    lies(net, n[i], n[i - 1], n[i + 1]);
                    threads++;
                }
                for (int i = 0; columns != null && i < columns.length; i++) {
                    lies(net, columns[i], above[2 * i], n[2 * i]);
                    threads++;
                }
                above = n;
            } else if (n.length > 0) {
                columns = n;
            }
        }
        due(threads == 31, "there are " + threads + " THREADS in the picture");
    }

    private static int[] numbers(String line) {
        String[] words = line.replaceAll("[^0-9]+", " ").trim().split(" ");
        int[] n = new int[words[0].isEmpty() ? 0 : words.length];
        for (int i = 0; i < n.length; i++) {
            n[i] = Integer.parseInt(words[i]);
        }
        return n;
    }

    private static void lies(NetMender net, int thread, int less, int more) {
        due(net.threadIs(thread, 4) == less && net.threadIs(thread, 5) == more,
                "THREAD " + thread + " is not drawn from " + less + " to " + more);
    }

    private static void calls(String readme, String source) {
        Matcher m = Pattern.compile("(?m)^    public \\w+ (\\w+)\\((.*)\\) \\{$").matcher(source);
        int calls = 0;
        while (m.find()) {
            String row = "| `" + m.group(1) + "(" + m.group(2).replaceAll("(int|long) ", "") + ")` |";
            due(readme.contains(row), "there is no row " + row);
            calls++;
        }
        due(calls == 39, "the class has " + calls + " calls");
    }

    /** Each file that is named is there, and each test is named. */
    private static void files(String readme, Path root) throws IOException {
        Matcher m = Pattern.compile("`((?:src|\\.ci|\\.\\.)/[\\w./]+)`").matcher(readme);
        while (m.find()) {
            due(Files.exists(root.resolve(m.group(1))), "there is no " + m.group(1));
        }
        try (Stream<Path> tests = Files.list(root.resolve("src/test/java"))) {
            for (Path path : tests.toList()) {
                String name = path.getFileName().toString().replace(".java", "");
                due(readme.contains("`" + name + "`"), "no word on " + name);
            }
        }
    }
}
