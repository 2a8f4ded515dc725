/** Gears for a road: a bicycle, a rider and a road of pieces, told in a text. See README.md. */
public final class GearRoad {
    public static final int NONE = -1000000, BAD = -1000001, STATE = -1000002, FULL = -1000003;

    private static final int NULL = 1, PLACE = 2, KIND = 3, SIZE = 4, STORE = 5;
    private static final int FINDINGS = -1000010, FAULTS = -1000100;

    private static final int RINGS = 3, COGS = 6, PIECES = 6, GEARS = RINGS * COGS;
    private static final int STRONGEST = 99, STEEPEST = 9, LEAST_TEETH = 10, MOST_TEETH = 40;
    private static final int IMAGES = 2;

    private static final int PLAIN = 1, WORN = 2, RAMPED = 3, OVAL = 4, FIXED = 5, KINDS = 6;
    /** Of each KIND the nearest one that it is, too; COG itself is no other. */
    private static final int[] NEAREST = {NONE, 0, PLAIN, PLAIN, 0, OVAL};

    private static final int ASK_SIZE = 0, ASK_MARK = 1;
    /** Of each KIND the BODY that begins, its own or the nearest one's. */
    private static final int[] SIZE_BODIES = {10, 11, 12, 11, 13, 14};
    private static final int[] MARK_BODIES = {20, 21, 24, 22, 23, 23};
    /** Far above the six BODIES that the longest ASK opens. */
    private static final int DEEPEST = 20;

    private static final int MOST_STEPS = 60, LAST_SEED = 999999;
    private static final long DRAW_FACTOR = 16807, DRAW_DIVISOR = 2147483647;

    private final Rows rows = new Rows();
    private final Tape tape = new Tape();
    private final Bike bike = new Bike();
    /** A BIKE is read, and RIDES are drawn, here, so that the real one stays as it is. */
    private final Bike spare = new Bike();
    private final Bike[] images = {new Bike(), new Bike()};
    private final Acts acts = new Acts();
    private final Planner planner = new Planner();
    private final Trace left = new Trace();
    private int finding = 0;
    private int latestFault = 0;

    public GearRoad() {
    }

    // ---- rows

    public int row(int row, int lane, int n) {
        if (!Rows.isRow(row) || !within(lane, Rows.BYTES, Rows.INTS) || n > Rows.ROOM) return BAD;
        if (n < 0) return found(SIZE);
        rows.make(row, lane, n);
        return unfound(n);
    }

    public int set(int row, int i, int v) {
        if (!Rows.isRow(row)) return BAD;
        if (rows.isMissing(row)) return found(NULL);
        if (!rows.reaches(row, i, 1)) return found(PLACE);
        return unfound(rows.put(row, i, v));
    }

    public int copy(int a, int i, int b, int j, int n) {
        if (!Rows.isRow(a) || !Rows.isRow(b)) return BAD;
        if (rows.isMissing(a) || rows.isMissing(b)) return found(NULL);
        if (rows.lanes[a] != rows.lanes[b]) return found(STORE);
        if (!rows.reaches(a, i, n) || !rows.reaches(b, j, n)) return found(PLACE);
        rows.move(a, i, b, j, n);
        return unfound(n);
    }

    public int drop(int row) {
        if (!Rows.isRow(row)) return BAD;
        if (rows.isMissing(row)) return found(NULL);
        return unfound(rows.remove(row));
    }

    // ---- bikes, acts

    public int feed(int letter) {
        if (!within(letter, 0, 255)) return BAD;
        if (tape.size >= Tape.ROOM) return FULL;
        tape.add(letter);
        return tape.size;
    }

    public int bike() {
        tape.read(spare);
        tape.size = 0;
        if (tape.fault != 0) {
            latestFault = tape.fault;
            return FAULTS - tape.place;
        }
        bike.takeFrom(spare);
        acts.forget();
        return bike.cogCount;
    }

    public int fault() {
        return latestFault;
    }

    public int ride() {
        if (!bike.there || !bike.canRide()) return STATE;
        acts.keep(bike);
        return bike.rideOn();
    }

    public int shift(int by) {
        if (!bike.there) return STATE;
        if (by != 1 && by != -1) return BAD;
        if (!bike.canShift(by)) return STATE;
        acts.keep(bike);
        bike.shiftCog(by);
        return bike.cog;
    }

    public int front(int by) {
        if (!bike.there) return STATE;
        if (by != 1 && by != -1) return BAD;
        if (!bike.hasRing(bike.ring + by)) return STATE;
        acts.keep(bike);
        bike.shiftRing(bike.ring + by);
        return bike.ring;
    }

    public int about() {
        if (!bike.there) return STATE;
        acts.keep(bike);
        bike.turnAbout();
        return bike.piece;
    }

    public int strength(int v) {
        if (!bike.there) return STATE;
        if (!within(v, 1, STRONGEST)) return BAD;
        acts.keep(bike);
        int was = bike.strength;
        bike.strength = v;
        return was;
    }

    public int slope(int piece, int v) {
        if (!bike.hasPiece(piece) || !within(v, 0, STEEPEST)) return BAD;
        acts.keep(bike);
        int was = bike.slopes[piece];
        bike.slopes[piece] = v;
        return was;
    }

    public int undo() {
        if (acts.size == 0) return STATE;
        acts.takeBack(bike);
        return acts.size;
    }

    public int cog(int cog, int what) {
        if (!bike.hasCog(cog)) return BAD;
        switch (what) {
            case 0: return bike.teeth[cog];
            case 1: return bike.turnedOn[cog];
            case 2: return bike.turnsOnto(cog);
            case 3: return bike.mayLeave(cog, bike.piece) ? 1 : 0;
            default: return BAD;
        }
    }

    public int ring(int ring) {
        return bike.hasRing(ring) ? bike.rings[ring] : BAD;
    }

    public int piece(int piece, int what) {
        if (!bike.hasPiece(piece)) return BAD;
        switch (what) {
            case 0: return bike.slopes[piece];
            case 1: return bike.gearsBorne(piece);
            case 2: return bike.loadOf(bike.gear(), bike.slopes[piece]);
            default: return BAD;
        }
    }

    // ---- foretold

    public int load(int gear, int slope) {
        if (!bike.hasGear(gear) || !within(slope, 0, STEEPEST)) return BAD;
        return bike.loadOf(gear, slope);
    }

    public int rounds(int gear) {
        return bike.hasGear(gear) ? bike.turnsOf(gear) : BAD;
    }

    public int cost(int from, int to) {
        if (!bike.hasGear(from) || !bike.hasGear(to)) return BAD;
        return bike.shiftCost(from, to, bike.piece);
    }

    public int plan(int k) {
        if (!bike.there) return STATE;
        if (k < -1) return BAD;
        planner.foreseeTurns(bike);
        return k == -1 ? planner.fewestTurns(bike) : planner.gearAhead(bike, k);
    }

    public int least() {
        if (!bike.there) return STATE;
        int strain = planner.leastStrain(bike);
        return strain > STRONGEST ? NONE : strain;
    }

    public int rank(int gear, int what) {
        if (!bike.hasGear(gear) || !within(what, 0, 1)) return BAD;
        return what == 0 ? bike.lighterThan(gear) : bike.alike(gear);
    }

    public int share(int cog, int n) {
        if (!bike.hasCog(cog) || !within(n, 0, 999)) return BAD;
        return bike.shareOf(cog, n);
    }

    public int fits(int row, int i, int n, int what) {
        if (!Rows.isRow(row) || !within(n, 1, PIECES) || !within(what, 0, 4)) return BAD;
        if (!bike.there) return STATE;
        if (rows.isMissing(row)) return found(NULL);
        if (!rows.reaches(row, i, n)) return found(PLACE);
        int at = Rows.placeOf(row, i);
        switch (what) {
            case 0: return unfound(sortsThatFit(at, n));
            case 1: case 2: return unfound(teethThatFit(at, n, what == 2));
            default: return unfound(strengthsThatFit(at, n, what == 4));
        }
    }

    public int chance(int c, int what) {
        if (!bike.there) return STATE;
        if (!within(c, 0, 10) || !within(what, 0, 1)) return BAD;
        int above = 1;
        int below = 1;
        for (int at = bike.piece; at < bike.pieceCount; at++) {
            above *= bike.tenthsBorne(at, c);
            below *= 10;
        }
        return (what == 0 ? above : below) / commonDivisor(below, above);
    }

    public int drawn(int n, int seed, int what) {
        if (!bike.there) return STATE;
        if (!within(n, 0, MOST_STEPS) || !within(seed, 1, LAST_SEED) || !within(what, 0, 1)) return BAD;
        spare.takeFrom(bike);
        spare.turned = 0;
        int ridden = 0;
        long x = seed;
        for (int step = 0; step < n; step++) {
            x = x * DRAW_FACTOR % DRAW_DIVISOR;
            shiftByDraw(spare, x);
            ridden += goOn(spare);
        }
        return what == 0 ? spare.turned : ridden;
    }

    public int image(int k) {
        if (!within(k, 0, IMAGES - 1)) return BAD;
        if (!bike.there) return STATE;
        images[k].takeFrom(bike);
        return 1;
    }

    public int restore(int k) {
        if (!within(k, 0, IMAGES - 1)) return BAD;
        if (!images[k].there) return STATE;
        bike.takeFrom(images[k]);
        acts.forget();
        return 1;
    }

    // ---- asked

    public int kind(int cog) {
        return bike.hasCog(cog) ? bike.kinds[cog] : BAD;
    }

    public int as(int cog, int kind) {
        if (!bike.hasCog(cog) || !within(kind, 0, KINDS - 1)) return BAD;
        return isOfKind(bike.kinds[cog], kind) ? unfound(cog) : found(KIND);
    }

    public int ask(int cog, int what) {
        if (!bike.hasCog(cog) || !within(what, ASK_SIZE, ASK_MARK)) return BAD;
        left.size = 0;
        return asked(what, cog, 0);
    }

    public int trace(int i) {
        return within(i, 0, left.size - 1) ? left.numbers[i] : NONE;
    }

    public int count(int what) {
        switch (what) {
            case 0: return rows.howMany();
            case 1: return bike.cogCount;
            case 2: return bike.ringCount;
            case 3: return bike.pieceCount;
            case 4: return bike.strength;
            case 5: return bike.gear();
            case 6: return bike.piece;
            case 7: return bike.turned;
            case 8: return acts.size;
            case 9: return tape.size;
            default: return BAD;
        }
    }

    public int status() {
        return finding;
    }

    // ---- what the calls share

    private static boolean within(int v, int least, int most) {
        return v >= least && v <= most;
    }

    private int found(int number) {
        finding = number;
        return FINDINGS - number;
    }

    private int unfound(int answer) {
        finding = 0;
        return answer;
    }

    /** 1 at least, so that it can always divide. */
    private static int commonDivisor(int a, int b) {
        int more = a;
        int less = b;
        // Two ints need fewer than 64 steps.
        for (int step = 0; step < 64 && less != 0; step++) {
            int rest = more % less;
            more = less;
            less = rest;
        }
        return Math.max(1, more);
    }

    // ---- what rows of TURNS tell

    private int sortsThatFit(int at, int n) {
        int sorts = 0;
        for (int kind = PLAIN; kind <= FIXED; kind++) {
            if (tells(at, n, kind, bike.teeth[bike.cog], bike.strength)) sorts |= 1 << kind;
        }
        return sorts;
    }

    private int teethThatFit(int at, int n, boolean justLeast) {
        int many = 0;
        for (int teeth = LEAST_TEETH; teeth <= MOST_TEETH; teeth++) {
            if (!tells(at, n, bike.kinds[bike.cog], teeth, bike.strength)) continue;
            if (justLeast) return teeth;
            many++;
        }
        return justLeast ? NONE : many;
    }

    private int strengthsThatFit(int at, int n, boolean justLeast) {
        int many = 0;
        for (int strength = 1; strength <= STRONGEST; strength++) {
            if (!tells(at, n, bike.kinds[bike.cog], bike.teeth[bike.cog], strength)) continue;
            if (justLeast) return strength;
            many++;
        }
        return justLeast ? NONE : many;
    }

    /** Whether n ITEMS are the TURNS that such a COG and such a STRENGTH would give. */
    private boolean tells(int at, int n, int kind, int teeth, int strength) {
        for (int next = 0; next < n; next++) {
            if (rows.items[at + next] != bike.turnsAhead(next, kind, teeth, strength)) return false;
        }
        return true;
    }

    // ---- RIDES by draws

    private static void shiftByDraw(Bike rider, long x) {
        int rest = (int) (x % 4);
        if (rest == 0) shiftIfMay(rider, 1);
        if (rest == 1) shiftIfMay(rider, -1);
        if (rest == 2 && x % 3 == 0 && rider.ringCount > 0) {
            int to = (int) (x % rider.ringCount);
            if (to != rider.ring) rider.shiftRing(to);
        }
    }

    private static void shiftIfMay(Bike rider, int by) {
        if (rider.canShift(by)) rider.shiftCog(by);
    }

    /** ABOUT or a RIDE: how many PIECES were ridden by it. */
    private static int goOn(Bike rider) {
        if (rider.piece >= rider.pieceCount) {
            rider.turnAbout();
            return 0;
        }
        if (!rider.canRide()) return 0;
        rider.rideOn();
        return 1;
    }

    // ---- KINDS and BODIES

    private static boolean isOfKind(int kind, int wanted) {
        int is = kind;
        for (int step = 0; step < KINDS && within(is, 0, KINDS - 1); step++) {
            if (is == wanted) return true;
            is = NEAREST[is];
        }
        return false;
    }

    private int asked(int what, int cog, int depth) {
        int kind = bike.kinds[cog];
        if (!within(kind, 0, KINDS - 1)) return 0;
        return body(what == ASK_SIZE ? SIZE_BODIES[kind] : MARK_BODIES[kind], cog, depth);
    }

    private int body(int number, int cog, int depth) {
        if (depth > DEEPEST) return 0;
        left.leave(number);
        int deeper = depth + 1;
        switch (number) {
            case 10: return bike.teeth[cog];
            case 11: return body(10, cog, deeper) + asked(ASK_MARK, cog, deeper);
            case 12: return -body(11, cog, deeper);
            case 13: return body(10, cog, deeper) - 100;
            case 14: return 2 * body(13, cog, deeper);
            case 20: return cog;
            case 21: return body(20, cog, deeper) + bike.turnedOn[cog];
            case 22: return body(21, cog, deeper) - 1000;
            case 23: return body(20, cog, deeper) - asked(ASK_SIZE, cog, deeper);
            case 24: return 2 * body(21, cog, deeper);
            default: return 0;
        }
    }

    /** ROWS, all in one array: each has its room there, whether it is missing or not. */
    private static final class Rows {
        static final int MANY = 8, ROOM = 40;
        static final int BYTES = 0, SHORTS = 1, INTS = 2, MISSING = -1;

        final int[] lanes = {MISSING, MISSING, MISSING, MISSING, MISSING, MISSING, MISSING, MISSING};
        final int[] sizes = new int[MANY];
        final int[] items = new int[MANY * ROOM];

        static boolean isRow(int row) {
            return within(row, 0, MANY - 1);
        }

        static int placeOf(int row, int i) {
            return row * ROOM + i;
        }

        boolean isMissing(int row) {
            return lanes[row] == MISSING;
        }

        /** Whether n ITEMS from i on are there; i and n can be any, so their sum is not taken. */
        boolean reaches(int row, int i, int n) {
            return i >= 0 && n >= 0 && i <= sizes[row] && n <= sizes[row] - i;
        }

        void make(int row, int lane, int n) {
            lanes[row] = lane;
            sizes[row] = n;
            for (int i = 0; i < n; i++) items[placeOf(row, i)] = 0;
        }

        int put(int row, int i, int v) {
            int kept = v;
            if (lanes[row] == BYTES) kept = (byte) v;
            if (lanes[row] == SHORTS) kept = (short) v;
            items[placeOf(row, i)] = kept;
            return kept;
        }

        void move(int a, int i, int b, int j, int n) {
            System.arraycopy(items, placeOf(a, i), items, placeOf(b, j), n);
        }

        int remove(int row) {
            lanes[row] = MISSING;
            return sizes[row];
        }

        int howMany() {
            int many = 0;
            for (int row = 0; row < MANY; row++) {
                if (!isMissing(row)) many++;
            }
            return many;
        }
    }

    /** THE TAPE, and how a BIKE is read from it. */
    private static final class Tape {
        static final int ROOM = 80, END = -1;

        final int[] bytes = new int[ROOM];
        int size = 0;
        int at = 0;
        int fault = 0;
        int place = 0;

        void add(int letter) {
            if (size >= ROOM) return;
            bytes[size] = letter;
            size++;
        }

        /** Reads the tape; fault is 0, if the BIKE is good. */
        void read(Bike into) {
            at = 0;
            fault = 0;
            place = 0;
            into.clear();
            readLaw(into);
            readRings(into);
            readCogs(into);
            readPieces(into);
            if (next() != END) fail(1);
            into.there = fault == 0;
        }

        private void readLaw(Bike into) {
            if (next() != 'b') fail(1);
            into.strength = numberBehind(1, STRONGEST);
        }

        private void readRings(Bike into) {
            for (int ring = 0; ring <= RINGS && next() == 'k'; ring++) {
                if (ring == RINGS) fail(3);
                int teeth = numberBehind(20, 60);
                if (fault != 0) return;
                into.rings[ring] = teeth;
                into.ringCount++;
            }
            if (into.ringCount == 0) fail(1);
        }

        private void readCogs(Bike into) {
            for (int cog = 0; cog <= COGS && sortOf(next()) != NONE; cog++) {
                int kind = sortOf(next());
                if (cog == COGS) fail(3);
                int teeth = numberBehind(LEAST_TEETH, MOST_TEETH);
                if (fault != 0) return;
                into.kinds[cog] = kind;
                into.teeth[cog] = teeth;
                into.cogCount++;
            }
            if (into.cogCount == 0) fail(1);
        }

        private void readPieces(Bike into) {
            for (int piece = 0; piece <= PIECES && next() == 's'; piece++) {
                if (piece == PIECES) fail(3);
                int slope = numberBehind(0, STEEPEST);
                if (fault != 0) return;
                into.slopes[piece] = slope;
                into.pieceCount++;
            }
            if (into.pieceCount == 0) fail(1);
        }

        private static int sortOf(int letter) {
            switch (letter) {
                case 'p': return PLAIN;
                case 'w': return WORN;
                case 'r': return RAMPED;
                case 'o': return OVAL;
                case 'f': return FIXED;
                default: return NONE;
            }
        }

        /** Passes a letter, takes the NUMBER behind it, and passes the ; behind that. */
        private int numberBehind(int least, int most) {
            if (fault != 0) return 0;
            at++;
            int value = takeNumber(least, most);
            if (next() != ';') fail(1);
            at++;
            return value;
        }

        private int takeNumber(int least, int most) {
            int figures = figuresHere();
            if (figures < 1 || figures > 2) fail(1);
            if (fault != 0) return 0;
            int value = 0;
            for (int i = 0; i < figures; i++) value = value * 10 + figureAt(at + i);
            if (!within(value, least, most)) fail(2);
            at += figures;
            return value;
        }

        private int figuresHere() {
            int figures = 0;
            while (figures < ROOM && figureAt(at + figures) != NONE) figures++;
            return figures;
        }

        private int figureAt(int i) {
            int letter = letterAt(i);
            return letter >= '0' && letter <= '9' ? letter - '0' : NONE;
        }

        private int next() {
            return letterAt(at);
        }

        private int letterAt(int i) {
            return i >= 0 && i < size ? bytes[i] : END;
        }

        /** The first FAULT counts; what is read behind it does not. */
        private void fail(int number) {
            if (fault != 0) return;
            fault = number;
            place = at;
        }
    }

    /** A BIKE with its rider on its road; none, as long as it is not there. */
    private static final class Bike {
        static final int MOST_TURNED = 99999, RING_TURNS = 5;

        boolean there = false;
        int ringCount = 0;
        int cogCount = 0;
        int pieceCount = 0;
        int strength = 0;
        int ring = 0;
        int cog = 0;
        int piece = 0;
        int turned = 0;
        final int[] rings = new int[RINGS];
        final int[] kinds = new int[COGS];
        final int[] teeth = new int[COGS];
        final int[] turnedOn = new int[COGS];
        final int[] slopes = new int[PIECES];

        void clear() {
            there = false;
            ringCount = 0;
            cogCount = 0;
            pieceCount = 0;
            strength = 0;
            ring = 0;
            cog = 0;
            piece = 0;
            turned = 0;
            for (int i = 0; i < COGS; i++) turnedOn[i] = 0;
        }

        void takeFrom(Bike other) {
            there = other.there;
            ringCount = other.ringCount;
            cogCount = other.cogCount;
            pieceCount = other.pieceCount;
            strength = other.strength;
            ring = other.ring;
            cog = other.cog;
            piece = other.piece;
            turned = other.turned;
            System.arraycopy(other.rings, 0, rings, 0, RINGS);
            System.arraycopy(other.kinds, 0, kinds, 0, COGS);
            System.arraycopy(other.teeth, 0, teeth, 0, COGS);
            System.arraycopy(other.turnedOn, 0, turnedOn, 0, COGS);
            System.arraycopy(other.slopes, 0, slopes, 0, PIECES);
        }

        boolean hasRing(int r) {
            return within(r, 0, ringCount - 1);
        }

        boolean hasCog(int c) {
            return within(c, 0, cogCount - 1);
        }

        boolean hasPiece(int p) {
            return within(p, 0, pieceCount - 1);
        }

        boolean hasGear(int g) {
            return g >= 0 && hasRing(g / COGS) && hasCog(g % COGS);
        }

        int gear() {
            return ring * COGS + cog;
        }

        // ---- LOAD, TURNS

        static int loadBy(int ringTeeth, int cogTeeth, int kind, int slope) {
            if (cogTeeth <= 0) return 0;
            int whole = (slope + 1) * ringTeeth * 10 / cogTeeth;
            return kind == OVAL || kind == FIXED ? whole - whole / 10 : whole;
        }

        static int turnsBy(int ringTeeth, int cogTeeth, int kind) {
            if (ringTeeth <= 0) return 0;
            int whole = 100 * cogTeeth / ringTeeth + 1;
            return kind == WORN ? whole + whole / 4 : whole;
        }

        int loadOf(int g, int slope) {
            if (!hasGear(g)) return 0;
            return loadBy(rings[g / COGS], teeth[g % COGS], kinds[g % COGS], slope);
        }

        int turnsOf(int g) {
            if (!hasGear(g)) return 0;
            return turnsBy(rings[g / COGS], teeth[g % COGS], kinds[g % COGS]);
        }

        boolean bears(int g, int slope) {
            return hasGear(g) && loadOf(g, slope) <= strength;
        }

        int gearsBorne(int p) {
            int bits = 0;
            for (int g = 0; g < GEARS; g++) {
                if (bears(g, slopes[p])) bits |= 1 << g;
            }
            return bits;
        }

        /** TURNS of a PIECE ahead, if the COG and the STRENGTH were these; 0, if it is not ridden. */
        int turnsAhead(int ahead, int kind, int cogTeeth, int strong) {
            int p = piece + ahead;
            if (!hasPiece(p)) return 0;
            if (loadBy(rings[ring], cogTeeth, kind, slopes[p]) > strong) return 0;
            return turnsBy(rings[ring], cogTeeth, kind);
        }

        /** By how many tenths a PIECE BEARS the GEAR, if it is steeper by c of them. */
        int tenthsBorne(int p, int c) {
            int tenths = bears(gear(), slopes[p]) ? 10 - c : 0;
            return bears(gear(), Math.min(STEEPEST, slopes[p] + 3)) ? tenths + c : tenths;
        }

        // ---- RIDE, SHIFTS, ABOUT

        boolean canRide() {
            return hasPiece(piece) && bears(gear(), slopes[piece]);
        }

        int rideOn() {
            int turns = turnsOf(gear());
            turn(turns);
            turnOnCog(turns);
            piece++;
            return turns;
        }

        boolean canShift(int by) {
            return hasCog(cog + by) && mayLeave(cog, piece);
        }

        void shiftCog(int by) {
            cog += by;
            turn(turnsOnto(cog));
            turnOnCog(turnsOnto(cog));
        }

        void shiftRing(int to) {
            ring = to;
            turn(RING_TURNS);
        }

        boolean mayLeave(int c, int p) {
            return kinds[c] != FIXED || p % 2 == 0;
        }

        int turnsOnto(int c) {
            return kinds[c] == RAMPED ? 1 : 3;
        }

        private void turn(int turns) {
            turned = Math.min(MOST_TURNED, turned + turns);
        }

        private void turnOnCog(int turns) {
            turnedOn[cog] = Math.min(MOST_TURNED, turnedOn[cog] + turns);
        }

        void turnAbout() {
            for (int i = 0, j = pieceCount - 1; i <= j; i++, j--) {
                int first = slopes[i];
                slopes[i] = STEEPEST - slopes[j];
                slopes[j] = STEEPEST - first;
            }
            piece = pieceCount - piece;
        }

        // ---- COST, RANK, SHARE

        int shiftCost(int from, int to, int p) {
            int byCogs = cogCost(from % COGS, to % COGS, p);
            return byCogs == NONE ? NONE : byCogs + ringCost(from, to);
        }

        static int ringCost(int from, int to) {
            return RING_TURNS * Math.abs(from / COGS - to / COGS);
        }

        int cogCost(int from, int to, int p) {
            int by = Integer.compare(to, from);
            int turns = 0;
            int at = from;
            for (int steps = Math.abs(to - from); steps > 0; steps--) {
                if (!mayLeave(at, p)) return NONE;
                at += by;
                turns += turnsOnto(at);
            }
            return turns;
        }

        int lighterThan(int g) {
            int many = 0;
            for (int other = 0; other < GEARS; other++) {
                if (hasGear(other) && compareGears(other, g) < 0) many++;
            }
            return many;
        }

        int alike(int g) {
            int many = 0;
            for (int other = 0; other < GEARS; other++) {
                if (other != g && hasGear(other) && compareGears(other, g) == 0) many++;
            }
            return many;
        }

        /** Multiplied crosswise, as a division would cut. */
        private int compareGears(int a, int b) {
            return Integer.compare(rings[a / COGS] * teeth[b % COGS], rings[b / COGS] * teeth[a % COGS]);
        }

        int shareOf(int c, int n) {
            int all = 0;
            for (int i = 0; i < cogCount; i++) all += turnedOn[i];
            if (all <= 0 || turnedOn[c] == 0) return 0;
            int over = n;
            int usedBefore = 0;
            for (int i = 0; i < cogCount; i++) {
                over -= n * turnedOn[i] / all;
                if (i < c && turnedOn[i] > 0) usedBefore++;
            }
            return n * turnedOn[c] / all + (usedBefore < over ? 1 : 0);
        }
    }

    /** What was ahead of each of the latest ACTS, in a ring of one array. */
    private static final class Acts {
        static final int ROOM = 24;
        static final int STRENGTH = 0, RING = 1, COG = 2, PIECE_AT = 3, TURNED = 4, SLOPES = 5;
        static final int TURNED_ON = SLOPES + PIECES, WIDTH = TURNED_ON + COGS;

        final int[] kept = new int[ROOM * WIDTH];
        int size = 0;
        int nextPlace = 0;

        void keep(Bike bike) {
            int at = nextPlace * WIDTH;
            kept[at + STRENGTH] = bike.strength;
            kept[at + RING] = bike.ring;
            kept[at + COG] = bike.cog;
            kept[at + PIECE_AT] = bike.piece;
            kept[at + TURNED] = bike.turned;
            System.arraycopy(bike.slopes, 0, kept, at + SLOPES, PIECES);
            System.arraycopy(bike.turnedOn, 0, kept, at + TURNED_ON, COGS);
            nextPlace = (nextPlace + 1) % ROOM;
            size = Math.min(ROOM, size + 1);
        }

        void takeBack(Bike bike) {
            nextPlace = (nextPlace + ROOM - 1) % ROOM;
            size--;
            int at = nextPlace * WIDTH;
            bike.strength = kept[at + STRENGTH];
            bike.ring = kept[at + RING];
            bike.cog = kept[at + COG];
            bike.piece = kept[at + PIECE_AT];
            bike.turned = kept[at + TURNED];
            System.arraycopy(kept, at + SLOPES, bike.slopes, 0, PIECES);
            System.arraycopy(kept, at + TURNED_ON, bike.turnedOn, 0, COGS);
        }

        void forget() {
            size = 0;
        }
    }

    /** PLAN and LEAST, worked out from the last PIECE back to the one at which one is. */
    private static final class Planner {
        static final int FAR = 1000000000;

        /** COST from COG to COG at even PIECES, then at odd ones: it is asked for too often to be counted anew. */
        final int[] costs = new int[2 * COGS * COGS];
        /** Of a PIECE and the GEAR in which it is ridden: TURNS, or STRENGTH, needed from there on; FAR: never. */
        final int[] needs = new int[PIECES * GEARS];

        void foreseeTurns(Bike bike) {
            learnCosts(bike);
            for (int piece = bike.pieceCount - 1; piece >= bike.piece; piece--) {
                for (int gear = 0; gear < GEARS; gear++) {
                    needs[piece * GEARS + gear] = turnsFromRide(bike, piece, gear);
                }
            }
        }

        /** Fewest TURNS from now on; NONE. */
        int fewestTurns(Bike bike) {
            int turns = turnsOnward(bike, bike.piece, bike.gear());
            return turns == FAR ? NONE : turns;
        }

        /** The GEAR of the k-th PIECE from now on; NONE. */
        int gearAhead(Bike bike, int k) {
            if (k >= bike.pieceCount - bike.piece) return NONE;
            int gear = bike.gear();
            for (int ahead = 0; ahead <= k && gear != NONE; ahead++) {
                gear = bestGear(bike.piece + ahead, gear);
            }
            return gear;
        }

        private int turnsFromRide(Bike bike, int piece, int gear) {
            if (!bike.bears(gear, bike.slopes[piece])) return FAR;
            int rest = turnsOnward(bike, piece + 1, gear);
            return rest == FAR ? FAR : bike.turnsOf(gear) + rest;
        }

        private int turnsOnward(Bike bike, int piece, int gear) {
            if (piece >= bike.pieceCount) return 0;
            int to = bestGear(piece, gear);
            return to == NONE ? FAR : turnsBy(piece, gear, to);
        }

        /** Of several that are best the first one. */
        private int bestGear(int piece, int gear) {
            int best = NONE;
            int fewest = FAR;
            for (int to = 0; to < GEARS; to++) {
                int turns = turnsBy(piece, gear, to);
                if (turns >= fewest) continue;
                fewest = turns;
                best = to;
            }
            return best;
        }

        private int turnsBy(int piece, int from, int to) {
            int need = needs[piece * GEARS + to];
            if (need == FAR) return FAR;
            int cost = costs[costPlace(piece, from, to)];
            return cost == NONE ? FAR : cost + Bike.ringCost(from, to) + need;
        }

        int leastStrain(Bike bike) {
            learnCosts(bike);
            for (int piece = bike.pieceCount - 1; piece >= bike.piece; piece--) {
                for (int gear = 0; gear < GEARS; gear++) {
                    needs[piece * GEARS + gear] = strainFromRide(bike, piece, gear);
                }
            }
            return strainOnward(bike, bike.piece, bike.gear());
        }

        private int strainFromRide(Bike bike, int piece, int gear) {
            if (!bike.hasGear(gear)) return FAR;
            return Math.max(bike.loadOf(gear, bike.slopes[piece]), strainOnward(bike, piece + 1, gear));
        }

        private int strainOnward(Bike bike, int piece, int gear) {
            if (piece >= bike.pieceCount) return 1;
            int least = FAR;
            for (int to = 0; to < GEARS; to++) {
                if (costs[costPlace(piece, gear, to)] != NONE) least = Math.min(least, needs[piece * GEARS + to]);
            }
            return least;
        }

        private void learnCosts(Bike bike) {
            for (int parity = 0; parity < 2; parity++) {
                for (int from = 0; from < bike.cogCount; from++) {
                    for (int to = 0; to < bike.cogCount; to++) {
                        costs[costPlace(parity, from, to)] = bike.cogCost(from, to, parity);
                    }
                }
            }
        }

        private static int costPlace(int piece, int from, int to) {
            return (piece % 2 * COGS + from % COGS) * COGS + to % COGS;
        }
    }

    /** THE TRACE of the latest ASK. */
    private static final class Trace {
        static final int ROOM = 16;

        final int[] numbers = new int[ROOM];
        int size = 0;

        void leave(int number) {
            if (size >= ROOM) return;
            numbers[size] = number;
            size++;
        }
    }
}
