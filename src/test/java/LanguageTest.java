import java.io.IOException;
import java.lang.reflect.Constructor;
import java.lang.reflect.Field;
import java.lang.reflect.Method;
import java.lang.reflect.Modifier;
import java.nio.file.Files;
import java.nio.file.Path;
import java.util.ArrayList;
import java.util.Collections;
import java.util.List;
import java.util.TreeSet;
import java.util.regex.Matcher;
import java.util.regex.Pattern;

/** The rules of LANGUAGE.md that can be looked at from outside, and the document's face. */
public final class LanguageTest {
    private static int wrong = 0;

    private static void need(boolean so, String what) {
        if (!so) {
            wrong++;
            System.out.println(what);
        }
    }

    public static void main(String[] args) throws IOException {
        String source = Files.readString(Path.of("src/main/java/ItByRhyme.java"));
        face(Files.readString(Path.of("../shared/DOC.md")));
        members();
        words(source);
        library(source);
        lengths(source);
        System.out.println(wrong == 0 ? "the rules are kept" : wrong + " rules are not kept");
        if (wrong != 0) System.exit(1);
    }

    private static void face(String doc) {
        String block = doc.substring(doc.indexOf("```java") + 7, doc.indexOf("```", doc.indexOf("```java") + 7));
        List<String> due = new ArrayList<>();
        for (String line : block.split("\n")) {
            String l = line.strip().replaceAll(" \\w+([,)])", "$1").replace(";", "");
            if (l.endsWith(")") && !l.contains("ItByRhyme(")) due.add(l);
        }
        List<String> got = new ArrayList<>();
        for (Method m : ItByRhyme.class.getDeclaredMethods()) {
            if (Modifier.isPrivate(m.getModifiers())) continue;
            StringBuilder s = new StringBuilder("public " + m.getReturnType() + " " + m.getName() + "(");
            for (Class<?> p : m.getParameterTypes()) s.append(s.toString().endsWith("(") ? "" : ", ").append(p);
            got.add(s.append(")").toString());
        }
        Collections.sort(due);
        Collections.sort(got);
        need(due.size() == 34 && due.equals(got), "face: " + due + " but " + got);
        need(Modifier.isFinal(ItByRhyme.class.getModifiers()), "the class is final");
        Constructor<?>[] makers = ItByRhyme.class.getDeclaredConstructors();
        need(makers.length == 1 && Modifier.isPublic(makers[0].getModifiers()), "one public constructor");
    }

    private static void members() {
        TreeSet<String> publics = new TreeSet<>();
        for (Method m : ItByRhyme.class.getDeclaredMethods()) {
            if (Modifier.isPublic(m.getModifiers())) publics.add(m.getName());
        }
        List<Class<?>> all = new ArrayList<>(List.of(ItByRhyme.class.getDeclaredClasses()));
        need(all.size() <= 12, "some twelve classes");
        for (Class<?> c : all) need(Modifier.isStatic(c.getModifiers()), c + " is static");
        all.add(ItByRhyme.class);
        for (Class<?> c : all) {
            int fields = 0;
            for (Field f : c.getDeclaredFields()) {
                boolean isStatic = Modifier.isStatic(f.getModifiers());
                fields += isStatic ? 0 : 1;
                need(!isStatic || Modifier.isFinal(f.getModifiers()), f + " is final");
                need(Modifier.isPrivate(f.getModifiers()) || f.getName().equals("NONE"), f + " is private");
            }
            need(fields <= 20, c + " has " + fields + " fields");
            for (Method m : c.getDeclaredMethods()) {
                need(m.getParameterCount() <= 7, m + " takes too many");
                boolean ofFace = c == ItByRhyme.class && Modifier.isPublic(m.getModifiers());
                need(ofFace || Modifier.isPrivate(m.getModifiers()), m + " is private");
                need(ofFace || !publics.contains(m.getName()), m + " bears a public one's name");
            }
        }
    }

    private static String bare(String source) {
        return source.replaceAll("(?s)/\\*.*?\\*/", "").replaceAll("//[^\n]*", "").replaceAll("\"[^\"\n]*\"", "\"\"")
            .replaceAll("'[^'\n]+'", "' '");
    }

    private static void words(String source) {
        String code = bare(source);
        for (String no : new String[] {"throw", "throws", "try", "catch", "synchronized", "assert", "package", "goto",
            "volatile", "transient", "native", "System.out", "Exact", "Random", "nanoTime", "currentTimeMillis",
            "hashCode", "toString", "equals", "protected"}) {
            need(!code.matches("(?s).*\\b" + no.replace(".", "\\.") + "\\b.*"), "no " + no);
        }
        need(!code.contains("->") && !code.contains("::"), "no lambda, no method reference");
        for (String line : code.split("\n")) {
            need(!line.startsWith("import") || line.equals("import java.util.Arrays;"), "import: " + line);
            need(!line.matches(".*\\bstatic \\{.*"), "no static block");
        }
    }

    /** Rule 4: of the library's classes the functions that it lists, and nothing else. */
    private static void library(String source) {
        List<String> functions = List.of("Integer.bitCount", "Integer.numberOfTrailingZeros", "Math.max", "Math.min",
            "System.arraycopy", "Arrays.fill");
        Matcher m = Pattern.compile("\\b(Integer|Long|Math|System|Arrays|String|Character|Boolean)\\s*\\.\\s*(\\w+\\s*\\(?)")
            .matcher(bare(source).replace("import java.util.Arrays;", ""));
        while (m.find()) {
            need(m.group(2).endsWith("(") && functions.contains(m.group(1) + "." + m.group(2).replace("(", "").strip()),
                "not of rule 4: " + m.group());
        }
    }

    private static void lengths(String source) {
        int since = 0;
        String head = "";
        String[] lines = source.split("\n");
        for (int i = 0; i < lines.length; i++) {
            String line = lines[i];
            need(line.length() <= 120, "line " + (i + 1) + " is long");
            if (line.matches(" {4}(| {4})(private|public) .*\\(.*\\) \\{")) {
                since = i;
                head = line.strip();
            }
            if (line.matches(" {4}(| {4})\\}") && !head.isEmpty()) {
                need(i - since < 60, head + " is long");
                head = "";
            }
        }
    }
}
