/** ROWS: the head of part 1 of "Terms", promises 1 to 5, and 36. */
final class RowsEdges {
    private static final int NONE = GearRoad.NONE, BAD = GearRoad.BAD, STATE = GearRoad.STATE, FULL = GearRoad.FULL;
    private static final int NULL = -1000011, PLACE = -1000012, KIND = -1000013, SIZE = -1000014, STORE = -1000015;
    private static final int LEAST = Integer.MIN_VALUE, MOST = Integer.MAX_VALUE;
    /** Its one PIECE takes 5 times TEETH of the COG, and 1, so that ITEMS of 51, 56 .. 201 can be told. */
    private static final String TELLER = "b99;k20;p10;s0;";

    private RowsEdges() {
    }

    static void all() {
        missingAtFirst();
        lanes();
        zeroToForty();
        aNewObject();
        row();
        rowRefused();
        set();
        setRefused();
        copy();
        copyRefused();
        drop();
        status();
    }

    /** What an ITEM is, of 0, 51, 56 .. 201; -1 for another: no call tells it, so fits() is asked for it. */
    private static int item(GearRoad teller, int row, int i) {
        int teeth = teller.fits(row, i, 1, 2);
        if (teeth >= 10) return 5 * teeth + 1;
        return teller.fits(row, i, 1, 3) == 19 ? 0 : -1;
    }

    private static void dueItems(String what, GearRoad teller, int row, int from, int... wants) {
        for (int i = 0; i < wants.length; i++) {
            Due.due(what + ": item " + (from + i) + " of row " + row, item(teller, row, from + i), wants[i]);
        }
    }

    /** At THE END all TURNS are 0, whichever the STRENGTH: all of a row's 40 ITEMS are looked at. */
    private static void dueFortyZeros(String what, GearRoad atTheEnd, int row) {
        for (int i = 0; i <= 34; i++) Due.due(what + ": items from " + i + " on", atTheEnd.fits(row, i, 6, 3), 99);
    }

    private static void missingAtFirst() {
        Due.says(0, "ROWS 0 .. 7 are missing (at first),");
        GearRoad x = new GearRoad();
        Due.due("count(0)", x.count(0), 0);
        for (int row = 0; row <= 7; row++) {
            Due.due("set(" + row + ", 0, 0)", x.set(row, 0, 0), NULL);
            Due.due("drop(" + row + ")", x.drop(row), NULL);
            Due.due("copy(" + row + ", ..)", x.copy(row, 0, row, 0, 0), NULL);
        }
        for (int row : new int[] {-1, 8}) {
            Due.due("set(" + row + ", 0, 0)", x.set(row, 0, 0), BAD);
            Due.due("drop(" + row + ")", x.drop(row), BAD);
            Due.due("copy(" + row + ", ..)", x.copy(row, 0, row, 0, 0), BAD);
        }
        for (int row = 0; row <= 7; row++) {
            Due.due("row(" + row + ", 0, 1)", x.row(row, 0, 1), 1);
            Due.due("count(0) with it", x.count(0), row + 1);
        }
    }

    private static void lanes() {
        Due.says(0, "or have a LANE (0 bytes, 1 shorts, 2 ints)");
        GearRoad x = new GearRoad();
        int[] wants = {BAD, 1, 1, 1, BAD};
        for (int lane = -1; lane <= 3; lane++) Due.due("row(0, " + lane + ", 1)", x.row(0, lane, 1), wants[lane + 1]);
        x.row(0, 0, 1);
        x.row(1, 1, 1);
        x.row(2, 2, 1);
        Due.due("all bits of a byte", x.set(0, 0, 0xABCDEF7F), 0x7F);
        Due.due("all bits of a short", x.set(1, 0, 0xABCD7FEF), 0x7FEF);
        Due.due("all bits of an int", x.set(2, 0, 0xABCDEF01), 0xABCDEF01);
    }

    private static void zeroToForty() {
        Due.says(0, "and 0 to 40 ITEMS, 0 at first.");
        GearRoad x = Due.bike(TELLER);
        x.ride();
        int[] sizes = {-1, 0, 1, 39, 40, 41};
        int[] wants = {SIZE, 0, 1, 39, 40, BAD};
        for (int i = 0; i < sizes.length; i++) Due.due("row of " + sizes[i], x.row(0, 2, sizes[i]), wants[i]);
        for (int lane = 0; lane <= 2; lane++) {
            x.row(lane, lane, 40);
            dueFortyZeros("lane " + lane, x, lane);
        }
    }

    private static void aNewObject() {
        Due.says(1, "No BIKE.");
        GearRoad x = new GearRoad();
        for (int what = 0; what <= 9; what++) Due.due("count(" + what + ")", x.count(what), 0);
        Due.due("fault()", x.fault(), 0);
        Due.due("status()", x.status(), 0);
        Due.due("trace(0)", x.trace(0), NONE);
        int[] states = {x.ride(), x.shift(1), x.front(1), x.about(), x.strength(1), x.undo(), x.plan(-1), x.least(), x.chance(0, 0),
            x.drawn(0, 1, 0), x.image(0), x.image(1), x.restore(0), x.restore(1), x.fits(0, 0, 1, 0)};
        for (int i = 0; i < states.length; i++) Due.due("call " + i + " that wants a BIKE", states[i], STATE);
        int[] bads = {x.slope(0, 0), x.cog(0, 0), x.ring(0), x.piece(0, 0), x.load(0, 0), x.rounds(0), x.cost(0, 0), x.rank(0, 0),
            x.share(0, 0), x.kind(0), x.as(0, 0), x.ask(0, 0)};
        for (int i = 0; i < bads.length; i++) Due.due("call " + i + " of what is not there", bads[i], BAD);
        Due.due("bike() of an empty tape", x.bike(), -1000100);
    }

    private static void row() {
        Due.says(2, "A ROW of a LANE with n ITEMS, in place of what is there: n.");
        for (int lane = 0; lane <= 2; lane++) {
            for (int n : new int[] {0, 1, 39, 40}) {
                GearRoad x = new GearRoad();
                Due.due("row(7, " + lane + ", " + n + ")", x.row(7, lane, n), n);
                Due.due("set behind the last of " + n, x.set(7, n, 1), PLACE);
                Due.due("set the last of " + n, x.set(7, n - 1, 1), n == 0 ? PLACE : 1);
                Due.due("drop(7)", x.drop(7), n);
            }
        }
        GearRoad x = Due.bike(TELLER);
        x.row(3, 1, 40);
        for (int i = 0; i < 40; i++) x.set(3, i, 51);
        Due.due("a shorter one of another LANE", x.row(3, 0, 2), 2);
        Due.due("how many ROWS", x.count(0), 1);
        Due.due("its LANE", x.set(3, 0, 300), 44);
        Due.due("its end", x.set(3, 2, 0), PLACE);
        Due.due("a longer one of that LANE", x.row(3, 1, 40), 40);
        x.ride();
        dueFortyZeros("in place of others", x, 3);
        Due.due("the same one again", x.row(3, 1, 40), 40);
    }

    private static void rowRefused() {
        Due.says(2, "BAD: ROW, LANE, n above 40; SIZE.");
        GearRoad x = Due.bike(TELLER);
        x.row(0, 2, 2);
        x.set(0, 1, 51);
        for (int row : new int[] {LEAST, -1, 8, MOST}) Due.due("row(" + row + ", 2, 1)", x.row(row, 2, 1), BAD);
        for (int lane : new int[] {LEAST, -1, 3, MOST}) Due.due("row(0, " + lane + ", 1)", x.row(0, lane, 1), BAD);
        for (int n : new int[] {41, 42, MOST}) Due.due("row(0, 2, " + n + ")", x.row(0, 2, n), BAD);
        for (int n : new int[] {-1, -2, LEAST}) Due.due("row(0, 2, " + n + ")", x.row(0, 2, n), SIZE);
        Due.due("BAD by its ROW ahead of SIZE", x.row(8, 2, -1), BAD);
        Due.due("BAD by its LANE ahead of SIZE", x.row(0, 3, -1), BAD);
        Due.due("SIZE of a missing one", x.row(1, 0, -1), SIZE);
        Due.due("how many ROWS", x.count(0), 1);
        dueItems("what is there stays", x, 0, 0, 0, 51);
        Due.due("its size stays", x.drop(0), 2);
    }

    private static void set() {
        Due.says(3, "ITEM i becomes v, its lowest bits, as many as the LANE has: what it is then.");
        GearRoad x = new GearRoad();
        for (int lane = 0; lane <= 2; lane++) x.row(lane, lane, 40);
        int[][] sets = {{0, 126, 126}, {0, 127, 127}, {0, 128, -128}, {0, -127, -127}, {0, -128, -128}, {0, -129, 127}, {0, 254, -2},
            {0, 255, -1}, {0, 256, 0}, {0, 257, 1}, {0, MOST, -1}, {0, LEAST, 0},
            {1, 32766, 32766}, {1, 32767, 32767}, {1, 32768, -32768}, {1, -32767, -32767}, {1, -32768, -32768}, {1, -32769, 32767},
            {1, 65534, -2}, {1, 65535, -1}, {1, 65536, 0}, {1, 65537, 1}, {1, MOST, -1}, {1, LEAST, 0},
            {2, MOST - 1, MOST - 1}, {2, MOST, MOST}, {2, LEAST, LEAST}, {2, LEAST + 1, LEAST + 1}, {2, -1, -1}};
        for (int[] s : sets) Due.due("set(" + s[0] + ", 39, " + s[1] + ")", x.set(s[0], 39, s[1]), s[2]);
        GearRoad teller = Due.bike(TELLER);
        for (int row = 0; row < 8; row++) teller.row(row, 1, 40);
        Due.due("set(3, 0, 51)", teller.set(3, 0, 51), 51);
        Due.due("set(3, 20, 56)", teller.set(3, 20, 56), 56);
        Due.due("set(3, 39, 65536 + 61)", teller.set(3, 39, 65536 + 61), 61);
        dueItems("just that ITEM", teller, 3, 0, 51, 0);
        dueItems("just that ITEM", teller, 3, 19, 0, 56, 0);
        dueItems("just that ITEM", teller, 3, 38, 0, 61);
        dueItems("not of the ROW ahead", teller, 2, 39, 0);
        dueItems("not of the ROW behind", teller, 4, 0, 0);
    }

    private static void setRefused() {
        Due.says(3, "BAD: ROW; NULL; PLACE.");
        GearRoad x = Due.bike(TELLER);
        x.row(0, 2, 2);
        x.row(7, 2, 40);
        x.row(1, 2, 0);
        for (int row : new int[] {LEAST, -1, 8, MOST}) Due.due("set(" + row + ", 0, 51)", x.set(row, 0, 51), BAD);
        Due.due("set(2, 0, 51)", x.set(2, 0, 51), NULL);
        Due.due("NULL ahead of PLACE", x.set(2, -1, 51), NULL);
        for (int i : new int[] {LEAST, -1, 2, 3, 40, MOST}) Due.due("set(0, " + i + ", 51)", x.set(0, i, 51), PLACE);
        for (int i : new int[] {-1, 40}) Due.due("set(7, " + i + ", 51)", x.set(7, i, 51), PLACE);
        for (int i : new int[] {-1, 0, 1}) Due.due("set(1, " + i + ", 51)", x.set(1, i, 51), PLACE);
        dueItems("nothing changes", x, 0, 0, 0, 0);
        dueItems("nothing changes", x, 7, 0, 0);
        dueItems("nothing changes", x, 7, 39, 0);
        for (int i : new int[] {0, 1}) Due.due("set(0, " + i + ", 51)", x.set(0, i, 51), 51);
        for (int i : new int[] {0, 39}) Due.due("set(7, " + i + ", 51)", x.set(7, i, 51), 51);
    }

    /** Row 0 is 51, 56, 61, 66, 71 in ints; row 1 three 0; row 2 in shorts. */
    private static GearRoad threeRows() {
        GearRoad x = Due.bike(TELLER);
        x.row(0, 2, 5);
        x.row(1, 2, 3);
        x.row(2, 1, 5);
        for (int i = 0; i < 5; i++) x.set(0, i, 51 + 5 * i);
        return x;
    }

    private static void copy() {
        Due.says(4, "n ITEMS of a from i on come to b from j on, as they were ahead: n.");
        GearRoad x = threeRows();
        Due.due("one up on itself", x.copy(0, 0, 0, 1, 4), 4);
        dueItems("one up", x, 0, 0, 51, 51, 56, 61, 66);
        x = threeRows();
        Due.due("one down on itself", x.copy(0, 1, 0, 0, 4), 4);
        dueItems("one down", x, 0, 0, 56, 61, 66, 71, 71);
        x = threeRows();
        Due.due("onto itself", x.copy(0, 0, 0, 0, 5), 5);
        dueItems("onto itself", x, 0, 0, 51, 56, 61, 66, 71);
        Due.due("to another up to both ends", x.copy(0, 3, 1, 1, 2), 2);
        dueItems("to another", x, 1, 0, 0, 66, 71);
        Due.due("just one", x.copy(0, 4, 1, 0, 1), 1);
        dueItems("just one", x, 1, 0, 71, 66, 71);
        Due.due("none", x.copy(0, 0, 1, 0, 0), 0);
        Due.due("none at both ends", x.copy(0, 5, 1, 3, 0), 0);
        dueItems("none came", x, 1, 0, 71, 66, 71);
        dueItems("a stays", x, 0, 0, 51, 56, 61, 66, 71);
        GearRoad whole = Due.bike(TELLER);
        whole.row(6, 1, 40);
        whole.row(7, 1, 40);
        whole.set(6, 0, 51);
        whole.set(6, 39, 201);
        Due.due("all forty", whole.copy(6, 0, 7, 0, 40), 40);
        dueItems("the first", whole, 7, 0, 51, 0);
        dueItems("the last", whole, 7, 38, 0, 201);
        whole.row(5, 1, 0);
        Due.due("of an empty one to an empty one", whole.copy(5, 0, 5, 0, 0), 0);
    }

    private static void copyRefused() {
        Due.says(4, "BAD: ROWS; NULL; STORE; PLACE (i, j, n below 0, or beyond an end).");
        GearRoad x = threeRows();
        for (int row : new int[] {LEAST, -1, 8, MOST}) {
            Due.due("copy from row " + row, x.copy(row, 0, 1, 0, 1), BAD);
            Due.due("copy to row " + row, x.copy(0, 0, row, 0, 1), BAD);
        }
        Due.due("BAD ahead of NULL", x.copy(7, 0, 8, 0, 1), BAD);
        Due.due("BAD ahead of NULL of the other", x.copy(8, 0, 7, 0, 1), BAD);
        Due.due("a is missing", x.copy(7, 0, 0, 0, 1), NULL);
        Due.due("b is missing", x.copy(0, 0, 7, 0, 1), NULL);
        Due.due("both are missing", x.copy(7, 0, 6, 0, 1), NULL);
        Due.due("NULL ahead of PLACE", x.copy(0, -1, 7, -1, -1), NULL);
        Due.due("two LANES", x.copy(0, 0, 2, 0, 1), STORE);
        Due.due("two LANES of none", x.copy(2, 0, 0, 0, 0), STORE);
        Due.due("STORE ahead of PLACE", x.copy(0, -1, 2, -1, -1), STORE);
        int[][] beyond = {{-1, 0, 1}, {0, -1, 1}, {0, 0, -1}, {LEAST, 0, 1}, {0, LEAST, 1}, {0, 0, LEAST}, {-1, 0, 0}, {0, -1, 0},
            {5, 0, 1}, {4, 0, 2}, {3, 0, 3}, {6, 0, 0}, {0, 3, 1}, {0, 2, 2}, {0, 0, 4}, {0, 4, 0}, {0, 0, 6}, {MOST, 0, 1}, {0, MOST, 1},
            {0, 0, MOST}, {1, 1, MOST}, {MOST, MOST, MOST}, {1, 0, -1}, {0, 1, -1}};
        for (int[] p : beyond) {
            Due.due("copy(0, " + p[0] + ", 1, " + p[1] + ", " + p[2] + ")", x.copy(0, p[0], 1, p[1], p[2]), PLACE);
        }
        dueItems("a stays", x, 0, 0, 51, 56, 61, 66, 71);
        dueItems("b stays", x, 1, 0, 0, 0, 0);
        int[][] within = {{4, 0, 1}, {3, 0, 2}, {2, 0, 3}, {5, 0, 0}, {0, 2, 1}, {0, 1, 2}, {0, 0, 3}, {0, 3, 0}};
        for (int[] p : within) {
            Due.due("copy(0, " + p[0] + ", 1, " + p[1] + ", " + p[2] + ")", x.copy(0, p[0], 1, p[1], p[2]), p[2]);
        }
    }

    private static void drop() {
        Due.says(5, "A ROW is missing from now on: how many ITEMS it had.");
        for (int n : new int[] {0, 1, 39, 40}) {
            GearRoad x = new GearRoad();
            x.row(0, 0, n);
            x.row(7, 0, n);
            Due.due("drop(7) of " + n, x.drop(7), n);
            Due.due("set(7, 0, 0) then", x.set(7, 0, 0), NULL);
            Due.due("count(0) then", x.count(0), 1);
            Due.due("drop(0) of " + n, x.drop(0), n);
            Due.due("count(0) at last", x.count(0), 0);
            Due.due("row(7, 2, 3) anew", x.row(7, 2, 3), 3);
        }
        GearRoad x = Due.bike(TELLER);
        x.row(1, 1, 40);
        for (int i = 0; i < 40; i++) x.set(1, i, 51);
        x.drop(1);
        x.row(1, 1, 40);
        x.ride();
        dueFortyZeros("anew", x, 1);
        Due.says(5, "BAD; NULL.");
        GearRoad y = new GearRoad();
        y.row(0, 0, 4);
        for (int row : new int[] {LEAST, -1, 8, MOST}) Due.due("drop(" + row + ")", y.drop(row), BAD);
        for (int row = 1; row <= 7; row++) Due.due("drop(" + row + ")", y.drop(row), NULL);
        Due.due("count(0)", y.count(0), 1);
        Due.due("drop(0)", y.drop(0), 4);
        Due.due("drop(0) again", y.drop(0), NULL);
    }

    private static void status() {
        Due.says(36, "Of the latest call with a ROW, or as(), that was not BAD, STATE, FULL: the number of its FINDING;");
        GearRoad x = Due.bike(TELLER);
        x.row(0, 0, 2);
        x.row(1, 1, 2);
        int[] found = {x.row(0, 0, -1), x.status(), x.set(2, 0, 0), x.status(), x.set(0, 2, 0), x.status(), x.copy(2, 0, 0, 0, 0),
            x.status(), x.copy(0, 0, 1, 0, 0), x.status(), x.copy(0, 3, 0, 0, 0), x.status(), x.drop(2), x.status(),
            x.fits(0, 2, 1, 0), x.status(), x.fits(2, 0, 1, 0), x.status(), x.as(0, 5), x.status()};
        int[] wants = {SIZE, 4, NULL, 1, PLACE, 2, NULL, 1, STORE, 5, PLACE, 2, NULL, 1, PLACE, 2, NULL, 1, KIND, 3};
        for (int i = 0; i < wants.length; i++) Due.due("call " + i, found[i], wants[i]);
        int[] bads = {x.row(8, 0, 0), x.row(0, 3, 0), x.row(0, 0, 41), x.set(8, 0, 0), x.copy(8, 0, 0, 0, 0), x.copy(0, 0, 8, 0, 0),
            x.drop(8), x.fits(8, 0, 1, 0), x.fits(0, 0, 0, 0), x.fits(0, 0, 7, 0), x.fits(0, 0, 1, 5), x.as(1, 0), x.as(0, 6)};
        for (int i = 0; i < bads.length; i++) Due.due("call " + i, bads[i], BAD);
        Due.due("status() behind what is BAD", x.status(), 3);
        x.kind(0);
        x.ask(0, 0);
        x.cog(0, 0);
        x.ride();
        x.ride();
        x.undo();
        for (int i = 0; i < 81; i++) x.feed('b');
        Due.due("FULL", x.feed('b'), FULL);
        x.bike();
        x.image(0);
        x.restore(0);
        Due.due("status() behind calls without a ROW", x.status(), 3);
        GearRoad none = new GearRoad();
        none.drop(0);
        Due.due("STATE", none.fits(0, 0, 1, 0), STATE);
        Due.due("status() behind STATE", none.status(), 1);
        statusOfGoodOnes();
    }

    private static void statusOfGoodOnes() {
        Due.says(36, "0: it had none, or there was none.");
        Due.due("status() at first", new GearRoad().status(), 0);
        GearRoad x = Due.bike(TELLER);
        Due.due("status() of no call with a ROW", x.status(), 0);
        int[] wants = {2, 7, 1, 0, 0, NONE, 19, 1, 0, 2, 0};
        for (int call = 0; call < wants.length; call++) {
            x.row(0, 0, -1);
            Due.due("status() ahead of a good call", x.status(), 4);
            Due.due("good call " + call, goodCall(call, x), wants[call]);
            Due.due("status() of good call " + call, x.status(), 0);
        }
    }

    private static int goodCall(int call, GearRoad x) {
        switch (call) {
            case 0: return x.row(0, 0, 2);
            case 1: return x.set(0, 1, 7);
            case 2: return x.copy(0, 0, 0, 1, 1);
            case 3: case 4: case 5: case 6: case 7: return x.fits(0, 0, 1, call - 3);
            case 8: return x.as(0, 1);
            case 9: return x.drop(0);
            default: return x.row(0, 0, 0);
        }
    }
}
