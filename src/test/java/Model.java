import java.math.BigInteger;
import java.util.ArrayDeque;
import java.util.ArrayList;
import java.util.Arrays;
import java.util.HashMap;
import java.util.List;
import java.util.Map;

/** The document once more, as plainly as can be: slow ways, and another shape than the class has. */
final class Model {
    static final int NONE = -1000000, BAD = -1000001, STATE = -1000002, FULL = -1000003;

    /** A COG; its KINDS are classes, so that as() and ask() are Java's own. */
    static class Cog {
        int number, teeth, kind, turned;
        List<Integer> trace;

        int size() { trace.add(10); return teeth; }
        int mark() { trace.add(20); return number; }
    }

    static class Plain extends Cog {
        @Override int size() { trace.add(11); int a = super.size(); return a + mark(); }
        @Override int mark() { trace.add(21); return super.mark() + turned; }
    }

    static final class Worn extends Plain {
        @Override int size() { trace.add(12); return 0 - super.size(); }
        @Override int mark() { trace.add(24); return super.mark() * 2; }
    }

    static final class Ramped extends Plain {
        @Override int mark() { trace.add(22); return super.mark() - 1000; }
    }

    static class Oval extends Cog {
        @Override int size() { trace.add(13); return super.size() - 100; }
        @Override int mark() { trace.add(23); int a = super.mark(); return a - size(); }
    }

    static final class Fixed extends Oval {
        @Override int size() { trace.add(14); return super.size() * 2; }
    }

    static final Class<?>[] CLASSES = {Cog.class, Plain.class, Worn.class, Ramped.class, Oval.class, Fixed.class};

    static Cog make(int kind, int number, int teeth, int turned) {
        Cog cog;
        switch (kind) {
            case 1: cog = new Plain(); break;
            case 2: cog = new Worn(); break;
            case 3: cog = new Ramped(); break;
            case 4: cog = new Oval(); break;
            default: cog = new Fixed();
        }
        cog.kind = kind;
        cog.number = number;
        cog.teeth = teeth;
        cog.turned = turned;
        return cog;
    }

    static final class Bike {
        int strength, ring, cog, piece, turned;
        List<Integer> rings = new ArrayList<>();
        List<Cog> cogs = new ArrayList<>();
        List<Integer> slopes = new ArrayList<>();

        Bike twin() {
            Bike b = new Bike();
            b.strength = strength;
            b.ring = ring;
            b.cog = cog;
            b.piece = piece;
            b.turned = turned;
            b.rings.addAll(rings);
            b.slopes.addAll(slopes);
            for (Cog c : cogs) b.cogs.add(make(c.kind, c.number, c.teeth, c.turned));
            return b;
        }

        boolean gearThere(int g) { return g >= 0 && g < 18 && g / 6 < rings.size() && g % 6 < cogs.size(); }
        int gear() { return 6 * ring + cog; }

        List<Integer> gears() {
            List<Integer> all = new ArrayList<>();
            for (int g = 0; g < 18; g++) if (gearThere(g)) all.add(g);
            return all;
        }

        int load(int g, int slope) {
            Cog c = cogs.get(g % 6);
            int l = (slope + 1) * rings.get(g / 6) * 10 / c.teeth;
            return c instanceof Oval ? l - l / 10 : l;
        }

        int turns(int g) {
            Cog c = cogs.get(g % 6);
            int t = 100 * c.teeth / rings.get(g / 6) + 1;
            return c instanceof Worn ? t + t / 4 : t;
        }

        boolean bears(int p, int g) { return load(g, slopes.get(p)) <= strength; }
        boolean leave(int c, int p) { return !(cogs.get(c) instanceof Fixed) || p % 2 == 0; }
        int onto(int c) { return cogs.get(c) instanceof Ramped ? 1 : 3; }

        void turn(int t, int onCog) {
            turned = Math.min(99999, turned + t);
            if (onCog >= 0) cogs.get(onCog).turned = Math.min(99999, cogs.get(onCog).turned + t);
        }

        int rideOn() {
            int t = turns(gear());
            turn(t, cog);
            piece++;
            return t;
        }

        void around() {
            List<Integer> other = new ArrayList<>();
            for (int i = slopes.size() - 1; i >= 0; i--) other.add(9 - slopes.get(i));
            slopes = other;
            piece = slopes.size() - piece;
        }

        /** Cheapest SHIFTS at a PIECE, one at a time, until nothing gets cheaper. */
        int[] costs(int from, int p) {
            int[] cost = new int[18];
            Arrays.fill(cost, NONE);
            cost[from] = 0;
            boolean again = true;
            while (again) {
                again = false;
                for (int g : gears()) {
                    if (cost[g] == NONE) continue;
                    int[][] next = {{g - 6, 5}, {g + 6, 5}, {g % 6 > 0 ? g - 1 : -1, 0}, {g % 6 < 5 ? g + 1 : -1, 0}};
                    for (int[] n : next) {
                        if (!gearThere(n[0])) continue;
                        if (n[1] == 0 && !leave(g % 6, p)) continue;
                        int c = cost[g] + (n[1] == 5 ? 5 : onto(n[0] % 6));
                        if (cost[n[0]] == NONE || c < cost[n[0]]) {
                            cost[n[0]] = c;
                            again = true;
                        }
                    }
                }
            }
            return cost;
        }

        /** First how many TURNS, then the GEARS; null: none. */
        int[] plan(int g, int p, Map<Integer, int[]> known) {
            if (p >= slopes.size()) return new int[] {0};
            int key = p * 18 + g;
            if (known.containsKey(key)) return known.get(key);
            int[] cost = costs(g, p);
            int[] best = null;
            for (int to : gears()) {
                if (cost[to] == NONE || !bears(p, to)) continue;
                int[] rest = plan(to, p + 1, known);
                if (rest == null) continue;
                int[] way = new int[rest.length + 1];
                way[0] = cost[to] + turns(to) + rest[0];
                way[1] = to;
                System.arraycopy(rest, 1, way, 2, rest.length - 1);
                if (best == null || Arrays.compare(way, best) < 0) best = way;
            }
            known.put(key, best);
            return best;
        }
    }

    int[][] rows = new int[8][];
    int[] lanes = new int[8];
    StringBuilder tape = new StringBuilder();
    Bike bike;
    Bike[] images = new Bike[2];
    ArrayDeque<Bike> acts = new ArrayDeque<>();
    List<Integer> trace = new ArrayList<>();
    int fault, status;

    int found(int n) { status = n; return -1000010 - n; }
    int good(int v) { status = 0; return v; }
    static boolean out(int v, int a, int b) { return v < a || v > b; }

    int row(int row, int lane, int n) {
        if (out(row, 0, 7) || out(lane, 0, 2) || n > 40) return BAD;
        if (n < 0) return found(4);
        rows[row] = new int[n];
        lanes[row] = lane;
        return good(n);
    }

    int set(int row, int i, int v) {
        if (out(row, 0, 7)) return BAD;
        if (rows[row] == null) return found(1);
        if (out(i, 0, rows[row].length - 1)) return found(2);
        rows[row][i] = lanes[row] == 0 ? (byte) v : lanes[row] == 1 ? (short) v : v;
        return good(rows[row][i]);
    }

    int copy(int a, int i, int b, int j, int n) {
        if (out(a, 0, 7) || out(b, 0, 7)) return BAD;
        if (rows[a] == null || rows[b] == null) return found(1);
        if (lanes[a] != lanes[b]) return found(5);
        if (i < 0 || j < 0 || n < 0 || (long) i + n > rows[a].length || (long) j + n > rows[b].length) return found(2);
        int[] as = rows[a].clone();
        for (int k = 0; k < n; k++) rows[b][j + k] = as[i + k];
        return good(n);
    }

    int drop(int row) {
        if (out(row, 0, 7)) return BAD;
        if (rows[row] == null) return found(1);
        int n = rows[row].length;
        rows[row] = null;
        return good(n);
    }

    int feed(int letter) {
        if (out(letter, 0, 255)) return BAD;
        if (tape.length() == 80) return FULL;
        tape.append((char) letter);
        return tape.length();
    }

    /** TOKENS {letter or sign or '0' for a NUMBER or 0 for none, place, value}, the end last. */
    static List<int[]> tokens(String s) {
        List<int[]> all = new ArrayList<>();
        int i = 0;
        while (i < s.length()) {
            char c = s.charAt(i);
            int j = i + 1;
            if (c >= '0' && c <= '9') {
                while (j < s.length() && s.charAt(j) >= '0' && s.charAt(j) <= '9') j++;
                all.add(j - i > 2 ? new int[] {0, i, 0} : new int[] {'0', i, Integer.parseInt(s.substring(i, j))});
            } else {
                all.add(new int[] {c >= 'a' && c <= 'z' || c == ',' || c == ';' ? c : 0, i, 0});
            }
            i = j;
        }
        all.add(new int[] {-1, s.length(), 0});
        return all;
    }

    int bike() {
        List<int[]> all = tokens(tape.toString());
        tape.setLength(0);
        Bike b = new Bike();
        int stage = 0;
        int at = 0;
        while (true) {
            int[] t = all.get(at);
            if (t[0] == -1 && stage == 3) break;
            String may = stage == 0 ? "b" : stage == 1 ? "kpwrof" : stage == 2 ? "pwrofs" : "s";
            if (stage == 1 && b.rings.isEmpty()) may = "k";
            if (t[0] <= 0 || may.indexOf(t[0]) < 0) return failed(1, t);
            int sort = "pwrof".indexOf(t[0]) + 1;
            int room = t[0] == 'k' ? 3 : 6;
            int many = t[0] == 'k' ? b.rings.size() : t[0] == 's' ? b.slopes.size() : sort > 0 ? b.cogs.size() : 0;
            if (many == room) return failed(3, t);
            int[] number = all.get(at + 1);
            if (number[0] != '0') return failed(1, number);
            int v = number[2];
            int[] range = t[0] == 'b' ? new int[] {1, 99} : t[0] == 'k' ? new int[] {20, 60}
                : t[0] == 's' ? new int[] {0, 9} : new int[] {10, 40};
            if (out(v, range[0], range[1])) return failed(2, number);
            if (all.get(at + 2)[0] != ';') return failed(1, all.get(at + 2));
            at += 3;
            if (t[0] == 'b') { b.strength = v; stage = 1; }
            if (t[0] == 'k') b.rings.add(v);
            if (t[0] == 's') { b.slopes.add(v); stage = 3; }
            if (sort > 0) { b.cogs.add(make(sort, b.cogs.size(), v, 0)); stage = 2; }
        }
        bike = b;
        acts.clear();
        return b.cogs.size();
    }

    int failed(int number, int[] token) {
        fault = number;
        return -1000100 - token[1];
    }

    void act() {
        acts.addLast(bike.twin());
        if (acts.size() > 24) acts.removeFirst();
    }

    boolean atEnd(Bike b) { return b.piece == b.slopes.size(); }

    int ride() {
        if (bike == null || atEnd(bike) || !bike.bears(bike.piece, bike.gear())) return STATE;
        act();
        return bike.rideOn();
    }

    int shift(int by) {
        if (bike == null) return STATE;
        if (Math.abs((long) by) != 1) return BAD;
        if (out(bike.cog + by, 0, bike.cogs.size() - 1) || !bike.leave(bike.cog, bike.piece)) return STATE;
        act();
        bike.cog += by;
        bike.turn(bike.onto(bike.cog), bike.cog);
        return bike.cog;
    }

    int front(int by) {
        if (bike == null) return STATE;
        if (Math.abs((long) by) != 1) return BAD;
        if (out(bike.ring + by, 0, bike.rings.size() - 1)) return STATE;
        act();
        bike.ring += by;
        bike.turn(5, -1);
        return bike.ring;
    }

    int about() {
        if (bike == null) return STATE;
        act();
        bike.around();
        return bike.piece;
    }

    int strength(int v) {
        if (bike == null) return STATE;
        if (out(v, 1, 99)) return BAD;
        act();
        int was = bike.strength;
        bike.strength = v;
        return was;
    }

    int slope(int p, int v) {
        if (bike == null || out(p, 0, bike.slopes.size() - 1) || out(v, 0, 9)) return BAD;
        act();
        return bike.slopes.set(p, v);
    }

    int undo() {
        if (acts.isEmpty()) return STATE;
        bike = acts.removeLast();
        return acts.size();
    }

    boolean noCog(int c) { return bike == null || out(c, 0, bike.cogs.size() - 1); }
    boolean noGear(int g) { return bike == null || !bike.gearThere(g); }

    int cog(int c, int what) {
        if (noCog(c) || out(what, 0, 3)) return BAD;
        return new int[] {bike.cogs.get(c).teeth, bike.cogs.get(c).turned, bike.onto(c), bike.leave(c, bike.piece) ? 1 : 0}[what];
    }

    int ring(int r) { return bike == null || out(r, 0, bike.rings.size() - 1) ? BAD : bike.rings.get(r); }

    int piece(int p, int what) {
        if (bike == null || out(p, 0, bike.slopes.size() - 1) || out(what, 0, 2)) return BAD;
        int bits = 0;
        for (int g : bike.gears()) if (bike.bears(p, g)) bits += 1 << g;
        return new int[] {bike.slopes.get(p), bits, bike.load(bike.gear(), bike.slopes.get(p))}[what];
    }

    int load(int g, int s) { return noGear(g) || out(s, 0, 9) ? BAD : bike.load(g, s); }
    int rounds(int g) { return noGear(g) ? BAD : bike.turns(g); }
    int cost(int a, int b) { return noGear(a) || noGear(b) ? BAD : bike.costs(a, bike.piece)[b]; }

    int plan(int k) {
        if (bike == null) return STATE;
        if (k < -1) return BAD;
        int[] way = bike.plan(bike.gear(), bike.piece, new HashMap<>());
        return way == null || k >= way.length - 1 ? NONE : way[k + 1];
    }

    int least() {
        if (bike == null) return STATE;
        Bike b = bike.twin();
        for (b.strength = 1; b.strength <= 99; b.strength++) {
            if (b.plan(b.gear(), b.piece, new HashMap<>()) != null) return b.strength;
        }
        return NONE;
    }

    int rank(int g, int what) {
        if (noGear(g) || out(what, 0, 1)) return BAD;
        int less = 0;
        int same = -1;
        for (int o : bike.gears()) {
            int d = bike.rings.get(o / 6) * bike.cogs.get(g % 6).teeth - bike.rings.get(g / 6) * bike.cogs.get(o % 6).teeth;
            if (d < 0) less++;
            if (d == 0) same++;
        }
        return what == 0 ? less : same;
    }

    int share(int c, int n) {
        if (noCog(c) || out(n, 0, 999)) return BAD;
        long all = 0;
        for (Cog o : bike.cogs) all += o.turned;
        if (all == 0) return 0;
        long[] shares = new long[6];
        long over = n;
        for (Cog o : bike.cogs) over -= shares[o.number] = (long) n * o.turned / all;
        for (Cog o : bike.cogs) if (o.turned > 0 && over > 0) { shares[o.number]++; over--; }
        return (int) shares[c];
    }

    boolean tells(Bike b, int row, int i, int n) {
        for (int k = 0; k < n; k++) {
            int p = b.piece + k;
            int t = p < b.slopes.size() && b.bears(p, b.gear()) ? b.turns(b.gear()) : 0;
            if (rows[row][i + k] != t) return false;
        }
        return true;
    }

    int fits(int row, int i, int n, int what) {
        if (out(row, 0, 7) || out(n, 1, 6) || out(what, 0, 4)) return BAD;
        if (bike == null) return STATE;
        if (rows[row] == null) return found(1);
        if (i < 0 || (long) i + n > rows[row].length) return found(2);
        List<Integer> fit = new ArrayList<>();
        int bits = 0;
        for (int v = 1; v <= 99; v++) {
            Bike b = bike.twin();
            Cog c = b.cogs.get(b.cog);
            if (what == 0 && v > 5 || what > 0 && what < 3 && out(v, 10, 40)) continue;
            if (what == 0) b.cogs.set(b.cog, make(v, c.number, c.teeth, c.turned));
            else if (what < 3) c.teeth = v;
            else b.strength = v;
            if (!tells(b, row, i, n)) continue;
            fit.add(v);
            if (what == 0) bits |= 1 << v;
        }
        return good(what == 0 ? bits : what % 2 == 1 ? fit.size() : fit.isEmpty() ? NONE : fit.get(0));
    }

    int chance(int c, int what) {
        if (bike == null) return STATE;
        if (out(c, 0, 10) || out(what, 0, 1)) return BAD;
        int left = bike.slopes.size() - bike.piece;
        long above = 0;
        // Each way in which the PIECES can be steeper, by itself.
        for (int way = 0; way < 1 << left; way++) {
            long weight = 1;
            for (int k = 0; k < left; k++) {
                boolean steep = (way >> k & 1) == 1;
                int s = bike.slopes.get(bike.piece + k);
                weight *= steep ? c : 10 - c;
                if (bike.load(bike.gear(), steep ? Math.min(9, s + 3) : s) > bike.strength) weight = 0;
            }
            above += weight;
        }
        BigInteger a = BigInteger.valueOf(above);
        BigInteger b = BigInteger.TEN.pow(left);
        return (what == 0 ? a : b).divide(a.gcd(b)).intValue();
    }

    int drawn(int n, int seed, int what) {
        if (bike == null) return STATE;
        if (out(n, 0, 60) || out(seed, 1, 999999) || out(what, 0, 1)) return BAD;
        Bike b = bike.twin();
        int turned = 0;
        int ridden = 0;
        BigInteger x = BigInteger.valueOf(seed);
        for (int step = 0; step < n; step++) {
            x = x.multiply(BigInteger.valueOf(16807)).mod(BigInteger.valueOf(2147483647));
            int v = x.intValue();
            int by = v % 4 == 0 ? 1 : v % 4 == 1 ? -1 : 0;
            if (by != 0 && !out(b.cog + by, 0, b.cogs.size() - 1) && b.leave(b.cog, b.piece)) {
                b.cog += by;
                turned += b.onto(b.cog);
            }
            if (v % 4 == 2 && v % 3 == 0 && v % b.rings.size() != b.ring) {
                b.ring = v % b.rings.size();
                turned += 5;
            }
            if (atEnd(b)) {
                b.around();
            } else if (b.bears(b.piece, b.gear())) {
                turned += b.rideOn();
                ridden++;
            }
        }
        return what == 0 ? turned : ridden;
    }

    int image(int k) {
        if (out(k, 0, 1)) return BAD;
        if (bike == null) return STATE;
        images[k] = bike.twin();
        return 1;
    }

    int restore(int k) {
        if (out(k, 0, 1)) return BAD;
        if (images[k] == null) return STATE;
        bike = images[k].twin();
        acts.clear();
        return 1;
    }

    int kind(int c) { return noCog(c) ? BAD : bike.cogs.get(c).kind; }

    int as(int c, int kind) {
        if (noCog(c) || out(kind, 0, 5)) return BAD;
        return CLASSES[kind].isInstance(bike.cogs.get(c)) ? good(c) : found(3);
    }

    int ask(int c, int what) {
        if (noCog(c) || out(what, 0, 1)) return BAD;
        trace.clear();
        Cog cog = bike.cogs.get(c);
        cog.trace = trace;
        return what == 0 ? cog.size() : cog.mark();
    }

    int fault() { return fault; }
    int status() { return status; }
    int trace(int i) { return out(i, 0, Math.min(16, trace.size()) - 1) ? NONE : trace.get(i); }

    int count(int what) {
        if (out(what, 0, 9)) return BAD;
        int there = 0;
        for (int[] r : rows) if (r != null) there++;
        if (what == 0) return there;
        if (what == 9) return tape.length();
        if (bike == null) return 0;
        return new int[] {0, bike.cogs.size(), bike.rings.size(), bike.slopes.size(), bike.strength, bike.gear(), bike.piece,
            bike.turned, acts.size()}[what];
    }
}
