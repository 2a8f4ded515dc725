import java.lang.reflect.Method;
import java.lang.reflect.Modifier;
import java.util.Random;

/** Every call with numbers of all sizes, in several states: nothing is thrown, and the answers are the model's. */
public final class NumbersTest {
    private static final int[] NUMBERS = {Integer.MIN_VALUE, Integer.MIN_VALUE + 1, -1073741824, -1000001, -41, -6, -2, -1, 0, 1, 2, 3, 4, 5,
        6, 7, 8, 9, 10, 11, 12, 17, 18, 39, 40, 41, 59, 60, 61, 80, 98, 99, 100, 127, 128, 255, 256, 998, 999, 1000, 32767, 32768, 65536,
        999999, 1000000, 1073741824, Integer.MAX_VALUE - 1, Integer.MAX_VALUE};
    /** Of calls with three numbers and more not all can be tried. */
    private static final int TRIES = 12000;
    /** What is left of an object's 512 calls for those that make its state, and for looking at it. */
    private static final int CALLS = 300;
    private static final int STATES = 7;

    private final Random random = new Random(10);
    private final Method call;
    private final Method due;
    private final int state;
    private GearRoad x = new GearRoad();
    private Model m = new Model();
    private int calls = CALLS;

    private NumbersTest(Method call, int state) throws NoSuchMethodException {
        this.call = call;
        this.due = Model.class.getDeclaredMethod(call.getName(), call.getParameterTypes());
        this.state = state;
    }

    public static void main(String[] args) throws Exception {
        int tried = 0;
        for (Method call : GearRoad.class.getDeclaredMethods()) {
            if (call.isSynthetic() || !Modifier.isPublic(call.getModifiers())) continue;
            for (int state = 0; state < STATES; state++) new NumbersTest(call, state).tryAll();
            tried++;
        }
        Due.due("calls that were tried", tried, 35);
        Due.end();
    }

    private void tryAll() throws Exception {
        int wide = call.getParameterCount();
        int all = 1;
        for (int i = 0; i < wide; i++) all = Math.min(1000000, all * NUMBERS.length);
        boolean byChance = wide > 2;
        for (int way = 0; way < (byChance ? TRIES : all); way++) {
            Object[] numbers = new Object[wide];
            for (int i = 0, rest = way; i < wide; i++, rest /= NUMBERS.length) {
                numbers[i] = NUMBERS[byChance ? random.nextInt(NUMBERS.length) : rest % NUMBERS.length];
            }
            tryOne(numbers);
        }
        look();
    }

    private void tryOne(Object[] numbers) throws Exception {
        if (calls >= CALLS) {
            look();
            x = new GearRoad();
            m = new Model();
            calls = 0;
            begin();
        }
        calls++;
        int got = (Integer) call.invoke(x, numbers);
        int want = (Integer) due.invoke(m, numbers);
        String told = got == want ? "" : java.util.Arrays.toString(numbers) + " in state " + state;
        Due.due(call.getName() + told, got, want);
    }

    private void look() {
        for (int what = 0; what <= 9; what++) Due.due(call.getName() + ": count(" + what + ")", x.count(what), m.count(what));
        Due.due(call.getName() + ": status()", x.status(), m.status());
        Due.due(call.getName() + ": fault()", x.fault(), m.fault());
        for (int i = 0; i <= 6; i++) Due.due(call.getName() + ": trace(" + i + ")", x.trace(i), m.trace(i));
    }

    private void begin() {
        String[] texts = {"", "", "b1;k20;p10;s0;", "b99;k20;k40;k60;p40;w30;r20;o25;f40;p10;s0;s3;s1;s0;s2;s1;", "b99;k20;f40;f39;f38;s0;s1;s0;",
            "b60;k60;k20;o40;r40;w40;s0;s9;", "b99;k20;k60;f40;r40;s0;s0;s0;s0;s0;"};
        if (state > 0) makeRows();
        if (!texts[state].isEmpty()) read(texts[state]);
        if (state == 1) {
            for (int i = 0; i < 80; i++) Due.due("feed", x.feed(i), m.feed(i));
        }
        if (state == 3) ride(3);
        if (state == 4) ride(3);
        if (state == 5) keepAndTurn();
        if (state == 6) {
            // At an odd PIECE on a fixed COG, with more ACTS than are kept.
            for (int i = 0; i < 26; i++) Due.due("strength", x.strength(73 + i), m.strength(73 + i));
            ride(1);
        }
    }

    private void makeRows() {
        int[][] rows = {{0, 0, 40}, {1, 1, 40}, {2, 2, 40}, {3, 2, 0}, {4, 0, 1}, {5, 2, 6}};
        for (int[] row : rows) Due.due("row", x.row(row[0], row[1], row[2]), m.row(row[0], row[1], row[2]));
        for (int i = 0; i < 6; i++) Due.due("set", x.set(2, i, i * 201), m.set(2, i, i * 201));
    }

    private void read(String text) {
        for (int i = 0; i < text.length(); i++) Due.due("feed", x.feed(text.charAt(i)), m.feed(text.charAt(i)));
        Due.due("bike", x.bike(), m.bike());
    }

    private void ride(int times) {
        for (int i = 0; i < times; i++) Due.due("ride", x.ride(), m.ride());
    }

    private void keepAndTurn() {
        Due.due("shift", x.shift(1), m.shift(1));
        Due.due("image", x.image(1), m.image(1));
        Due.due("about", x.about(), m.about());
        Due.due("ask", x.ask(2, 0), m.ask(2, 0));
        Due.due("front", x.front(1), m.front(1));
        Due.due("restore", x.restore(1), m.restore(1));
        Due.due("slope", x.slope(0, 2), m.slope(0, 2));
    }
}
