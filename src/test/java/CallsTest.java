import java.io.PrintWriter;
import java.io.StringWriter;
import java.util.ArrayList;
import java.util.List;
import java.util.Map;
import java.util.Set;
import java.util.TreeMap;
import java.util.TreeSet;
import java.util.regex.Matcher;
import java.util.regex.Pattern;
import java.util.spi.ToolProvider;

/**
 * LANGUAGE.md 8 and 11: calls that are no recursion go at most eight deep, and just the BODIES of ASKS are one;
 * 2, 4, 6 and 12, as the compiled class shows them: the library, nothing thrown or caught, nothing made but by constructors.
 */
public final class CallsTest {
    private static final Pattern METHOD = Pattern.compile(" {2}(?:\\S+ )*([\\w$.]+)\\(.*\\);");
    private static final String CONSTANTS = "  static {};";
    private static final Pattern CALL = Pattern.compile("invoke.*// (?:Interface)?Method (\\S+?):");

    private static final Pattern FORBIDDEN = Pattern.compile("\\b(athrow|invokedynamic|monitorenter|monitorexit|Exception table)\\b");
    private static final Pattern MAKES = Pattern.compile("\\b\\d+: (new|newarray|anewarray|multianewarray)\\b");
    /** Of what LANGUAGE.md lists that which the class uses; Object's own constructor is not to be avoided. */
    private static final Set<String> LIBRARY = Set.of("java/lang/Object.\"<init>\"", "java/lang/Math.abs", "java/lang/Math.max",
        "java/lang/Math.min", "java/lang/Integer.compare", "java/lang/System.arraycopy");

    private final Map<String, Set<String>> calls = new TreeMap<>();

    public static void main(String[] args) {
        if (ToolProvider.findFirst("javap").isEmpty()) {
            System.out.println("there is no javap by which calls could be seen");
            return;
        }
        CallsTest test = new CallsTest();
        test.look(GearRoad.class);
        for (Class<?> inner : GearRoad.class.getDeclaredClasses()) test.look(inner);
        Due.due("methods were found", test.calls.size() > 36);
        for (String method : test.calls.keySet()) {
            List<String> way = test.deepest(method, new ArrayList<>());
            Due.due("at most eight deep: " + way, way.size() <= 8);
            boolean ofAsks = method.equals("GearRoad.asked") || method.equals("GearRoad.body");
            Due.due(method + " is a recursion just if it is for ASKS", test.callsItself(method) == ofAsks);
        }
        Due.end();
    }

    private void look(Class<?> type) {
        StringWriter out = new StringWriter();
        ToolProvider javap = ToolProvider.findFirst("javap").orElseThrow();
        PrintWriter to = new PrintWriter(out);
        javap.run(to, to, "-c", "-p", "-cp", System.getProperty("java.class.path"), type.getName());
        String method = "";
        for (String line : out.toString().split("\n")) {
            Matcher begins = METHOD.matcher(line);
            if (begins.matches() || line.equals(CONSTANTS)) {
                method = type.getName() + "." + (line.equals(CONSTANTS) ? "constants" : begins.group(1));
                calls.put(method, new TreeSet<>());
            }
            lookAtLine(type, method, line);
            Matcher goes = CALL.matcher(line);
            if (!goes.find() || goes.group(1).startsWith("java/")) continue;
            String callee = goes.group(1).replace("\"", "");
            if (callee.endsWith("<init>")) continue;
            calls.get(method).add(callee.contains(".") ? callee : type.getName() + "." + callee);
        }
    }

    private static void lookAtLine(Class<?> type, String method, String line) {
        Matcher forbidden = FORBIDDEN.matcher(line);
        if (forbidden.find()) Due.due("no " + forbidden.group(1) + " in " + method, false);
        boolean byConstructor = method.equals(type.getName() + "." + type.getName()) || method.endsWith(".constants");
        if (MAKES.matcher(line).find()) Due.due("made with the object, not by " + method + ": " + line, byConstructor);
        Matcher goes = CALL.matcher(line);
        if (goes.find() && goes.group(1).startsWith("java/")) Due.due("the library has " + goes.group(1), LIBRARY.contains(goes.group(1)));
    }

    /** The longest way of calls that comes to no method twice. */
    private List<String> deepest(String method, List<String> way) {
        List<String> here = new ArrayList<>(way);
        here.add(method);
        List<String> longest = here;
        for (String next : calls.getOrDefault(method, Set.of())) {
            if (here.contains(next)) continue;
            List<String> deeper = deepest(next, here);
            if (deeper.size() > longest.size()) longest = deeper;
        }
        return longest;
    }

    private boolean callsItself(String method) {
        Set<String> reached = new TreeSet<>();
        List<String> open = new ArrayList<>(calls.get(method));
        while (!open.isEmpty()) {
            String next = open.remove(open.size() - 1);
            if (reached.add(next)) open.addAll(calls.getOrDefault(next, Set.of()));
        }
        return reached.contains(method);
    }
}
