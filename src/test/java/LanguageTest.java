import java.lang.reflect.Constructor;
import java.lang.reflect.Field;
import java.lang.reflect.Method;
import java.lang.reflect.Modifier;
import java.nio.file.Files;
import java.nio.file.Path;
import java.util.Map;
import java.util.Set;
import java.util.TreeMap;
import java.util.TreeSet;
import java.util.regex.Matcher;
import java.util.regex.Pattern;

/** What of LANGUAGE.md can be seen without a compiler: the face, forbidden words, sizes; and the room that calls take. */
public final class LanguageTest {
    private static final String SOURCE = "src/main/java/GearRoad.java";
    private static final String FACE = "row3 set3 copy5 drop1 feed1 bike0 fault0 ride0 shift1 front1 about0 strength1 slope2 undo0 "
        + "cog2 ring1 piece2 load2 rounds1 cost2 plan1 least0 rank2 share2 fits4 chance2 drawn3 image1 restore1 kind1 as2 ask2 "
        + "trace1 count1 status0";
    private static final String[] WORDS = {"throw", "try", "catch", "synchronized", "assert", "import", "package", "throws", "protected",
        "Exact", "hashCode", "toString", "->", "::", "Thread", "System\\.(?!arraycopy)", "Object", "volatile", "native", "double", "float"};

    public static void main(String[] args) throws Exception {
        face();
        constants();
        nestedClasses();
        words();
        room();
        Due.end();
    }

    private static void face() {
        Set<String> due = new TreeSet<>(Set.of(FACE.split(" ")));
        Set<String> publics = new TreeSet<>();
        Set<String> names = new TreeSet<>();
        for (Method m : GearRoad.class.getDeclaredMethods()) {
            if (m.isSynthetic() || !Modifier.isPublic(m.getModifiers())) continue;
            publics.add(m.getName() + m.getParameterCount());
            names.add(m.getName());
            Due.due(m + " is no static one and answers an int", !Modifier.isStatic(m.getModifiers()) && m.getReturnType() == int.class);
            for (Class<?> type : m.getParameterTypes()) Due.due(m + " takes ints", type == int.class);
        }
        Due.due("the face is the document's: " + publics, publics.equals(due));
        for (Method m : GearRoad.class.getDeclaredMethods()) {
            if (m.isSynthetic() || Modifier.isPublic(m.getModifiers())) continue;
            Due.due(m + " is private", Modifier.isPrivate(m.getModifiers()));
            Due.due(m + " has a name of its own", !names.contains(m.getName()));
        }
        for (Constructor<?> c : GearRoad.class.getDeclaredConstructors()) {
            Due.due("one public constructor without arguments", Modifier.isPublic(c.getModifiers()) && c.getParameterCount() == 0);
        }
        Due.due("the class is public and final", Modifier.isPublic(GearRoad.class.getModifiers()) && Modifier.isFinal(GearRoad.class.getModifiers()));
    }

    private static void constants() throws IllegalAccessException {
        Map<String, Integer> due = new TreeMap<>(Map.of("NONE", -1000000, "BAD", -1000001, "STATE", -1000002, "FULL", -1000003));
        for (Field f : GearRoad.class.getDeclaredFields()) {
            int how = f.getModifiers();
            if (Modifier.isStatic(how)) Due.due(f + " is final", Modifier.isFinal(how));
            if (Modifier.isPublic(how)) Due.due(f + " is told", due.containsKey(f.getName()) && f.getInt(null) == due.remove(f.getName()));
            else Due.due(f + " is private", Modifier.isPrivate(how));
        }
        Due.due("all constants are there", due.isEmpty());
    }

    private static void nestedClasses() {
        Class<?>[] classes = GearRoad.class.getDeclaredClasses();
        Due.due("some twelve classes at most", classes.length <= 11);
        for (Class<?> c : classes) {
            Due.due(c + " is static", Modifier.isStatic(c.getModifiers()));
            int fields = 0;
            for (Field f : c.getDeclaredFields()) {
                if (!Modifier.isStatic(f.getModifiers())) fields++;
                else Due.due(f + " is final", Modifier.isFinal(f.getModifiers()));
            }
            Due.due(c + " has some twenty fields at most", fields <= 20);
            for (Method m : c.getDeclaredMethods()) {
                Due.due(m + " has a name that no public one has", !(" " + FACE).matches(".* " + m.getName() + "\\d.*"));
                Due.due(m + " takes seven at most", m.getParameterCount() <= 7);
            }
        }
    }

    private static void words() throws Exception {
        String source = Files.readString(Path.of(SOURCE)).replaceAll("(?s)/\\*.*?\\*/", "").replaceAll("//[^\n]*", "");
        for (String word : WORDS) {
            String whole = Character.isLetter(word.charAt(0)) && !word.contains("\\") && !word.equals("Exact") ? "\\b" + word + "\\b" : word;
            Matcher found = Pattern.compile(whole).matcher(source);
            Due.due("no " + word + " in the source", !found.find());
        }
        Matcher makes = Pattern.compile("\\bnew\\b").matcher(source);
        while (makes.find()) {
            String line = source.substring(source.lastIndexOf('\n', makes.start()) + 1, source.indexOf('\n', makes.start()));
            Due.due("made with the object alone: " + line, line.contains("final") && line.contains("= "));
        }
        int length = 0;
        for (String line : source.split("\n")) {
            length = line.matches(" {4}(public|private) .*\\{|\\s{8}\\w.*\\) \\{") ? 0 : length + 1;
            Due.due("methods stay under sixty lines", length <= 60 || !line.startsWith("        "));
        }
    }

    /** No call makes an object: what is used is made with the GearRoad. */
    private static void room() {
        com.sun.management.ThreadMXBean threads = (com.sun.management.ThreadMXBean) java.lang.management.ManagementFactory.getThreadMXBean();
        GearRoad x = Due.bike("b99;k20;k40;k60;f10;p20;r20;w30;o40;f40;s9;s0;s9;s5;s5;s9;");
        long id = Thread.currentThread().getId();
        useAll(x);
        long before = threads.getThreadAllocatedBytes(id);
        for (int i = 0; i < 20; i++) useAll(x);
        long used = threads.getThreadAllocatedBytes(id) - before;
        Due.due("20 times all calls took " + used + " bytes", used < 2000);
    }

    private static int useAll(GearRoad x) {
        int sum = x.row(0, 0, 40) + x.set(0, 0, 1) + x.copy(0, 0, 0, 1, 9) + x.row(1, 1, 2) + x.drop(1) + x.feed('b') + x.bike() + x.fault();
        sum += x.shift(1) + x.ride() + x.front(1) + x.about() + x.strength(99) + x.slope(0, 1) + x.undo() + x.cog(0, 1) + x.ring(0);
        sum += x.piece(0, 1) + x.load(0, 9) + x.rounds(0) + x.cost(0, 9) + x.plan(-1) + x.plan(5) + x.least() + x.rank(0, 0) + x.share(0, 99);
        for (int what = 0; what < 5; what++) sum += x.fits(0, 0, 6, what);
        sum += x.chance(5, 0) + x.drawn(60, 7, 0) + x.image(0) + x.restore(0) + x.kind(0) + x.as(0, 0) + x.ask(0, 0) + x.trace(0);
        return sum + x.count(7) + x.status();
    }
}
