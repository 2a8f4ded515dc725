import java.io.IOException;
import java.lang.reflect.Field;
import java.net.URL;
import java.net.URLClassLoader;
import java.nio.file.Files;
import java.nio.file.Path;
import java.util.ArrayList;
import java.util.List;
import java.util.Map;
import java.util.Set;
import java.util.TreeMap;
import java.util.TreeSet;
import java.util.regex.Matcher;
import java.util.regex.Pattern;
import java.util.spi.ToolProvider;

/** What README.md tells: its example answers as it says, and its tables are those of the document and of the class. */
public final class ReadmeTest {
    private static final Pattern ASKED = Pattern.compile("(x\\.\\w+\\(.*\\)); +// (-?\\d+)\\b.*");
    /** KIND and SIZE are words of the document, too: KIND is a refusal just where it tells why. */
    private static final Pattern REFUSAL = Pattern.compile("\\b(BAD|STATE|FULL|NONE|NULL|PLACE|SIZE|STORE|KIND(?=:))(?!\\w)");
    private static final Map<String, Integer> FINDINGS = Map.of("NULL", 1, "PLACE", 2, "KIND", 3, "SIZE", 4, "STORE", 5);

    private static String readme = "";
    private static String document = "";

    public static void main(String[] args) throws Exception {
        readme = Files.readString(Path.of("README.md"));
        document = Files.readString(Path.of("../shared/DOC.md"));
        example();
        answers();
        calls();
        tests();
        Due.end();
    }

    private static void example() throws Exception {
        List<String> asked = new ArrayList<>();
        List<Integer> told = new ArrayList<>();
        StringBuilder body = new StringBuilder();
        for (String line : fenced(readme)) {
            Matcher m = ASKED.matcher(line);
            if (!m.matches()) {
                Due.due("README tells what is answered: " + line, !line.startsWith("x."));
                body.append(line).append('\n');
                continue;
            }
            asked.add(m.group(1));
            told.add(Integer.valueOf(m.group(2)));
            body.append("answers.add(").append(m.group(1)).append(");\n");
        }
        Due.due("README has an example", asked.size() >= 10);
        List<?> got = answersOf(body.toString());
        Due.due("as many answers as calls", got.size(), asked.size());
        for (int i = 0; i < Math.min(got.size(), asked.size()); i++) {
            Due.due("README's call " + i + ", " + asked.get(i), (Integer) got.get(i), told.get(i));
        }
    }

    /** Compiles and runs lines that put what is answered in a list. */
    private static List<?> answersOf(String lines) throws Exception {
        Path dir = Files.createTempDirectory("readme");
        Path source = dir.resolve("Example.java");
        Files.writeString(source, "public final class Example { public static java.util.List<Integer> run() {\n"
            + "java.util.List<Integer> answers = new java.util.ArrayList<>();\n" + lines + "return answers; } }\n");
        int failed = ToolProvider.findFirst("javac").orElseThrow()
            .run(System.out, System.out, "-cp", System.getProperty("java.class.path"), "-d", dir.toString(), source.toString());
        Due.due("README's example can be compiled", failed, 0);
        if (failed != 0) return List.of();
        try (URLClassLoader loader = new URLClassLoader(new URL[] {dir.toUri().toURL()})) {
            return (List<?>) loader.loadClass("Example").getMethod("run").invoke(null);
        } finally {
            for (String name : List.of("Example.java", "Example.class")) Files.deleteIfExists(dir.resolve(name));
            Files.deleteIfExists(dir);
        }
    }

    /** The lines of the first block of Java. */
    private static List<String> fenced(String text) {
        int from = text.indexOf("```java\n");
        int to = from < 0 ? -1 : text.indexOf("\n```", from);
        return to < 0 ? List.of() : text.substring(from + 8, to).lines().toList();
    }

    private static List<String[]> table(String firstColumn) {
        List<String[]> found = new ArrayList<>();
        boolean within = false;
        for (String line : readme.lines().toList()) {
            if (line.startsWith("| " + firstColumn + " |")) within = true;
            else if (!line.startsWith("|")) within = false;
            else if (within && !line.startsWith("| ---")) found.add(line.substring(2).split(" *\\| ?", -1));
        }
        return found;
    }

    private static void answers() throws IllegalAccessException {
        Map<String, String> due = new TreeMap<>();
        for (Field f : GearRoad.class.getFields()) due.put("`" + f.getName() + "`", String.valueOf(f.getInt(null)));
        FINDINGS.forEach((name, number) -> due.put(name, String.valueOf(-1000010 - number)));
        due.put("a fault", "-1000100 less its place");
        Map<String, String> told = new TreeMap<>();
        for (String[] cells : table("name")) {
            told.put(cells[0], cells[1]);
            if (FINDINGS.containsKey(cells[0])) Due.due(cells[0] + " has its number", cells[2].startsWith("finding " + FINDINGS.get(cells[0]) + ":"));
        }
        Due.due("README tells the answers " + due + ": " + told, told.equals(due));
    }

    /** One line for each call of the document's face, in its order, with what the call's promise refuses. */
    private static void calls() {
        List<String> face = new ArrayList<>();
        Matcher m = Pattern.compile("public int (\\w+)\\((.*)\\);").matcher(document);
        while (m.find()) face.add(m.group(1) + "(" + m.group(2).replace("int ", "") + ")");
        List<String[]> rows = table("call");
        Due.due("as many calls as the face has", rows.size(), face.size());
        for (int i = 0; i < Math.min(rows.size(), face.size()); i++) {
            String[] cells = rows.get(i);
            Due.due("README's call " + i + " is " + face.get(i) + ": " + cells[0], cells[0].equals("`" + face.get(i) + "`"));
            // Promise 1 is the constructor. That of status() names the refusals of other calls.
            String promise = face.get(i).equals("status()") ? "" : promise(i + 2);
            String told = cells[1] + "; " + cells[2].replace("KIND", "KIND:").replace("a fault", "");
            Due.due(face.get(i) + " refuses " + refusals(promise) + ": " + told, refusals(told).equals(refusals(promise)));
            Due.due(face.get(i) + " has STATE first as told", cells[2].contains("STATE first") == promise.contains("(ahead of BAD)"));
            Due.due(face.get(i) + " has a fault as told", cells[2].contains("a fault") == promise.contains("a FAULT"));
        }
    }

    private static String promise(int number) {
        int from = document.indexOf("## Promise " + number + ":");
        if (from < 0) return "";
        int to = document.indexOf("\n## ", from);
        return to < 0 ? document.substring(from) : document.substring(from, to);
    }

    private static Set<String> refusals(String text) {
        Set<String> found = new TreeSet<>();
        Matcher m = REFUSAL.matcher(text);
        while (m.find()) found.add(m.group(1));
        return found;
    }

    /** Each test that .ci/run finds has its line. */
    private static void tests() throws IOException {
        Set<String> told = new TreeSet<>();
        for (String[] cells : table("test")) told.add(cells[0].replace("`", ""));
        Set<String> there = new TreeSet<>();
        try (var files = Files.list(Path.of("src/test/java"))) {
            files.map(f -> f.getFileName().toString()).filter(n -> n.endsWith("Test.java")).forEach(n -> there.add(n.replace(".java", "")));
        }
        Due.due("README tells the tests " + there + ": " + told, told.equals(there));
    }
}
