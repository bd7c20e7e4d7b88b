import java.io.File;
import java.io.IOException;
import java.nio.file.Files;
import java.nio.file.Path;
import java.util.ArrayList;
import java.util.Comparator;
import java.util.List;
import java.util.TreeSet;
import java.util.regex.Matcher;
import java.util.regex.Pattern;
import java.util.stream.Stream;

/**
 * README.md, tried as it is written: its programs and commands in a copy of the project, what they
 * print against what it says that they print, and its tables against the document and the files.
 */
public final class ReadmeTest {
    private static final Pattern BLOCK = Pattern.compile("(?m)^```(\\w+)\n((?s).*?)^```$");
    private static final Pattern PROGRAM = Pattern.compile("public final class (\\w+)");
    private static int wrong = 0;

    private static void need(boolean so, String what) {
        if (!so) {
            wrong++;
            System.out.println(what);
        }
    }

    public static void main(String[] args) throws IOException, InterruptedException {
        String page = Files.readString(Path.of("README.md"));
        Path copy = Files.createTempDirectory("readme");
        try {
            copyTree(Path.of("src"), copy.resolve("src"));
            tryBlocks(page, copy);
        } finally {
            removeTree(copy);
        }
        tableOfCalls(page, Files.readString(Path.of("../shared/DOC.md")));
        tableOfTests(page);
        System.out.println(wrong == 0 ? "the page is so" : wrong + " things of the page are not so");
        if (wrong != 0) System.exit(1);
    }

    private static void copyTree(Path from, Path to) throws IOException {
        try (Stream<Path> all = Files.walk(from)) {
            for (Path p : (Iterable<Path>) all::iterator) Files.copy(p, to.resolve(from.relativize(p).toString()));
        }
    }

    private static void removeTree(Path tree) throws IOException {
        try (Stream<Path> all = Files.walk(tree)) {
            for (Path p : (Iterable<Path>) all.sorted(Comparator.reverseOrder())::iterator) Files.delete(p);
        }
    }

    /** Programs are saved, commands run; a text behind commands is what they print. */
    private static void tryBlocks(String page, Path copy) throws IOException, InterruptedException {
        int programs = 0;
        int commands = 0;
        int texts = 0;
        String printed = null;
        Matcher m = BLOCK.matcher(page);
        while (m.find()) {
            String body = m.group(2);
            switch (m.group(1)) {
                case "java" -> {
                    save(body, copy);
                    programs++;
                }
                case "sh" -> {
                    commands++;
                    printed = body.strip().equals(".ci/run") ? script() : run(body, copy);
                }
                case "text" -> {
                    need(body.equals(printed), "due to be printed:\n" + body + "but it was:\n" + printed);
                    texts++;
                }
                default -> need(false, "a block of another kind: " + m.group(1));
            }
        }
        need(programs == 1 && commands == 4 && texts == 3, programs + " programs, " + commands + " commands, " + texts + " texts");
    }

    private static void save(String body, Path copy) throws IOException {
        Matcher m = PROGRAM.matcher(body);
        boolean named = m.find();
        need(named, "a program without a class: " + body);
        if (named) Files.writeString(copy.resolve(m.group(1) + ".java"), body);
    }

    /** It runs this test, so this test can't run it. */
    private static String script() {
        need(new File(".ci/run").canExecute(), ".ci/run can be run");
        return null;
    }

    private static String run(String body, Path copy) throws IOException, InterruptedException {
        Process p = new ProcessBuilder("bash", "-e", "-c", body).directory(copy.toFile()).redirectErrorStream(true).start();
        String printed = new String(p.getInputStream().readAllBytes());
        need(p.waitFor() == 0, "it failed: " + body + printed);
        return printed;
    }

    private static void tableOfCalls(String page, String doc) {
        String face = doc.substring(doc.indexOf("```java"), doc.indexOf("## Terms"));
        Matcher m = Pattern.compile("public (?:int|long) (\\w+)\\(([^)]*)\\);").matcher(face);
        int calls = 0;
        while (m.find()) {
            String call = m.group(1) + "(" + m.group(2).replace("int ", "") + ")";
            need(page.contains("`" + call + "`"), "no word of " + call);
            calls++;
        }
        need(calls == 34, calls + " calls in the document's face");
    }

    private static void tableOfTests(String page) {
        List<String> rows = new ArrayList<>();
        Matcher m = Pattern.compile("(?m)^\\| `(\\w+Test)` \\|").matcher(page);
        while (m.find()) rows.add(m.group(1) + ".java");
        TreeSet<String> files = new TreeSet<>();
        for (String file : new File("src/test/java").list()) {
            if (file.endsWith("Test.java")) files.add(file);
        }
        need(new TreeSet<>(rows).equals(files) && rows.size() == files.size(), "tests: " + rows + " but " + files);
    }
}
