import java.util.Random;

/** Runs of calls by chance (the same ones each time), of the class and of the model: their answers are the same. */
public final class ModelTest {
    private static final int RUNS = 1500, CALLS = 512;
    private static final int[] ODD = {Integer.MIN_VALUE, -1000001, -7, -2, -1, 0, 1, 2, 3, 5, 6, 7, 8, 10, 18, 40, 41, 99, 100,
        255, 256, 1000, 1000000, Integer.MAX_VALUE};

    private final Random random;
    private final GearRoad x = new GearRoad();
    private final Model m = new Model();
    private final StringBuilder run = new StringBuilder();
    private int calls = 0;
    private boolean same = true;

    private ModelTest(int seed) {
        random = new Random(seed);
    }

    public static void main(String[] args) {
        for (int seed = 0; seed < RUNS; seed++) new ModelTest(seed).go(seed);
        Due.end();
    }

    private void go(int seed) {
        if (seed % 5 != 0) read(text());
        while (calls < CALLS && same) step();
        Due.due("run " + seed + ": " + run.substring(Math.max(0, run.length() - 600)), same);
    }

    /** A number from a to b; seldom an odd one. */
    private int num(int a, int b) {
        if (random.nextInt(25) == 0) return ODD[random.nextInt(ODD.length)];
        return a + random.nextInt(b - a + 1);
    }

    private int within(int a, int b) {
        return a + random.nextInt(b - a + 1);
    }

    private String text() {
        StringBuilder s = new StringBuilder();
        s.append('b').append(within(30, 99)).append(';');
        for (int i = within(1, 3); i > 0; i--) s.append('k').append(random.nextBoolean() ? within(20, 30) : within(20, 60)).append(';');
        for (int i = within(1, 6); i > 0; i--) {
            s.append("pwrof".charAt(random.nextInt(5))).append(random.nextBoolean() ? within(10, 40) : 10 * within(1, 4)).append(';');
        }
        for (int i = within(1, 6); i > 0; i--) s.append('s').append(random.nextBoolean() ? within(0, 3) : within(0, 9)).append(';');
        return s.toString();
    }

    private String spoiled() {
        StringBuilder s = new StringBuilder(text());
        String some = "bkpwrofsz,;0123456789 B" + (char) 0 + (char) 255;
        for (int n = within(1, 3); n > 0 && s.length() > 0; n--) {
            int at = random.nextInt(s.length());
            char c = some.charAt(random.nextInt(some.length()));
            int how = random.nextInt(4);
            if (how == 0) s.deleteCharAt(at);
            if (how == 1) s.setCharAt(at, c);
            if (how == 2) s.insert(at, c);
            if (how == 3) s.insert(at, s.substring(at, Math.min(s.length(), at + 4)));
        }
        if (random.nextInt(4) == 0) s.setLength(random.nextInt(s.length() + 1));
        return s.toString();
    }

    private void read(String text) {
        for (int i = 0; i < text.length(); i++) due("feed", x.feed(text.charAt(i)), m.feed(text.charAt(i)));
        due("bike " + text, x.bike(), m.bike());
        due("fault", x.fault(), m.fault);
    }

    private void due(String call, int got, int want) {
        calls++;
        if (calls > CALLS || !same) return;
        run.append(call).append(" = ").append(got).append("; ");
        if (got == want) return;
        run.append("due is ").append(want);
        same = false;
    }

    private void step() {
        int pick = random.nextInt(100);
        if (pick < 45) act();
        else if (pick < 60) rows();
        else if (pick < 85) foretell();
        else if (pick < 97) ask();
        else texts();
    }

    private void texts() {
        int pick = random.nextInt(6);
        if (pick == 0) read(text());
        else if (pick == 1) read(spoiled());
        else {
            int letter = num(0, 255);
            due("feed", x.feed(letter), m.feed(letter));
        }
    }

    private void act() {
        int a = random.nextInt(3) - 1;
        int by = a == 0 ? num(-1, 1) : a;
        switch (random.nextInt(14)) {
            case 0: case 1: case 2: case 3: due("ride", x.ride(), m.ride()); break;
            case 4: case 5: case 6: due("shift " + by, x.shift(by), m.shift(by)); break;
            case 7: due("front " + by, x.front(by), m.front(by)); break;
            case 8: due("about", x.about(), m.about()); break;
            case 9: { int v = num(1, 99); due("strength " + v, x.strength(v), m.strength(v)); break; }
            case 10: { int v = num(60, 99); due("strength " + v, x.strength(v), m.strength(v)); break; }
            case 11: case 12: {
                int p = num(0, 5);
                int v = num(0, 9);
                due("slope " + p + " " + v, x.slope(p, v), m.slope(p, v));
                break;
            }
            default: due("undo", x.undo(), m.undo());
        }
    }

    private void rows() {
        int a = num(0, 3);
        int b = num(0, 3);
        int i = num(0, 6);
        int j = num(0, 6);
        int n = num(0, 8);
        switch (random.nextInt(8)) {
            case 0: { int lane = random.nextBoolean() ? 2 : num(0, 2); due("row " + a + " " + lane + " " + n, x.row(a, lane, n), m.row(a, lane, n)); break; }
            case 1: case 2: { int v = random.nextInt(); due("set " + a + " " + i + " " + v, x.set(a, i, v), m.set(a, i, v)); break; }
            case 3: case 4: due("copy", x.copy(a, i, b, j, n), m.copy(a, i, b, j, n)); break;
            case 5: if (random.nextInt(3) == 0) due("drop " + a, x.drop(a), m.drop(a)); break;
            case 6: tellARide(); break;
            default: { int w = num(0, 4); due("fits", x.fits(a, i, n, w), m.fits(a, i, n, w)); }
        }
    }

    /** A row that some GEAR does tell, with now and then an ITEM spoiled. */
    private void tellARide() {
        if (m.bike == null) return;
        Model.Bike b = m.bike.twin();
        if (random.nextInt(3) == 0) b.strength = within(1, 99);
        if (random.nextInt(3) == 0) b.cogs.get(b.cog).teeth = within(10, 40);
        if (random.nextInt(3) == 0) b.cogs.set(b.cog, Model.make(within(1, 5), b.cog, b.cogs.get(b.cog).teeth, 0));
        int n = within(1, 6);
        due("row", x.row(4, 2, n + 2), m.row(4, 2, n + 2));
        for (int k = 0; k < n; k++) {
            int p = b.piece + k;
            int t = p < b.slopes.size() && b.bears(p, b.gear()) ? b.turns(b.gear()) : 0;
            if (random.nextInt(30) == 0) t++;
            due("set", x.set(4, 1 + k, t), m.set(4, 1 + k, t));
        }
        for (int w = 0; w < 5; w++) due("fits 4 1 " + n + " " + w, x.fits(4, 1, n, w), m.fits(4, 1, n, w));
    }

    private void foretell() {
        int g = num(0, 17);
        int h = num(0, 17);
        int v = num(0, 10);
        int w = num(0, 1);
        switch (random.nextInt(10)) {
            case 0: due("load " + g, x.load(g, v), m.load(g, v)); break;
            case 1: due("rounds " + g, x.rounds(g), m.rounds(g)); break;
            case 2: due("cost " + g + " " + h, x.cost(g, h), m.cost(g, h)); break;
            case 3: case 4: { int k = num(-1, 6); due("plan " + k, x.plan(k), m.plan(k)); break; }
            case 5: due("least", x.least(), m.least()); break;
            case 6: due("rank " + g, x.rank(g, w), m.rank(g, w)); break;
            case 7: { int c = num(0, 5); int n = num(0, 999); due("share " + c + " " + n, x.share(c, n), m.share(c, n)); break; }
            case 8: due("chance " + v, x.chance(v, w), m.chance(v, w)); break;
            default: { int n = num(0, 60); int s = num(1, 999999); due("drawn " + n + " " + s + " " + w, x.drawn(n, s, w), m.drawn(n, s, w)); }
        }
    }

    private void ask() {
        int c = num(0, 5);
        int w = num(0, 3);
        switch (random.nextInt(11)) {
            case 0: { int k = num(0, 1); due("image " + k, x.image(k), m.image(k)); break; }
            case 1: { int k = num(0, 1); if (random.nextInt(3) == 0) due("restore " + k, x.restore(k), m.restore(k)); break; }
            case 2: due("kind " + c, x.kind(c), m.kind(c)); break;
            case 3: { int k = num(0, 5); due("as " + c + " " + k, x.as(c, k), m.as(c, k)); break; }
            case 4: { int k = num(0, 1); due("ask " + c + " " + k, x.ask(c, k), m.ask(c, k)); break; }
            case 5: { int i = num(-1, 6); due("trace " + i, x.trace(i), m.trace(i)); break; }
            case 6: { int k = num(0, 10); due("count " + k, x.count(k), m.count(k)); break; }
            case 7: due("status", x.status(), m.status); break;
            case 8: due("cog " + c + " " + w, x.cog(c, w), m.cog(c, w)); break;
            case 9: due("ring " + w, x.ring(w), m.ring(w)); break;
            default: due("piece " + c + " " + w, x.piece(c, w), m.piece(c, w));
        }
    }
}
