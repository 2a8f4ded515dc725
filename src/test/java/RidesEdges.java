/** RIDES by draws: the end of part 3 of "Terms", promise 28. */
final class RidesEdges {
    private static final int BAD = GearRoad.BAD, STATE = GearRoad.STATE;
    private static final int LEAST = Integer.MIN_VALUE, MOST = Integer.MAX_VALUE;
    /**
     * SEEDS for one step, up to 127773: X is 16807 times as much, so that by 4 it leaves 0, 1, 3 for 4, 3, 1; for 2, 6 it
     * leaves 2, and just for 6 it leaves 0 by 3, and then 0 by 1, 2 or 3 RINGS, too.
     */
    private static final int MORE = 4, LESS = 3, NOTHING = 1, NO_RING = 2, TO_RING = 6;

    private RidesEdges() {
    }

    static void all() {
        steps();
        draws();
        toCogs();
        toRings();
        aboutOrRide();
        whatIsTold();
        drawn();
        drawnRefused();
    }

    private static void dueDrawn(String what, GearRoad x, int n, int seed, int turned, int ridden) {
        Due.due(what + ": drawn(" + n + ", " + seed + ", 0)", x.drawn(n, seed, 0), turned);
        Due.due(what + ": drawn(" + n + ", " + seed + ", 1)", x.drawn(n, seed, 1), ridden);
    }

    /** One COG, one RING: no draw shifts; six RIDES and one ABOUT come by turns. */
    private static int riddenIn(int steps) {
        return steps - steps / 7;
    }

    private static void steps() {
        Due.says(0, "RIDES of n steps (0 to 60) by a SEED (X at first):");
        GearRoad x = Due.bike("b99;k20;p40;s0;s1;s2;s3;s4;s5;");
        for (int n : new int[] {0, 1, 6, 7, 8, 59, 60}) dueDrawn("alone", x, n, 999999, 201 * riddenIn(n), riddenIn(n));
        Due.due("-1 steps", x.drawn(-1, 1, 0), BAD);
        Due.due("61 steps", x.drawn(61, 1, 0), BAD);
        for (int seed : new int[] {1, 2, 999998, 999999}) dueDrawn("alone", x, 1, seed, 201, 1);
        Due.due("SEED 0", x.drawn(1, 0, 0), BAD);
        Due.due("SEED 1000000", x.drawn(1, 1000000, 0), BAD);
    }

    private static void draws() {
        Due.says(0, "ahead of each X becomes the rest of (X times 16807) by 2147483647;");
        // By 1: 16807, 282475249, 1622650073, 984943658, 1144108930, 470211272, 101027544, 1457850878, 1458777923, 2007237709,
        // which by 4 leave 3, 1, 1, 2, 2, 0, 0, 2, 3, 1; none of those that leave 2 can be divided by 3.
        GearRoad x = Due.bike("b99;k20;p10;r20;p40;s0;s0;s0;s0;s0;s0;");
        x.shift(1);
        x.shift(1);
        int[] turned = {0, 201, 303, 357, 408, 459, 561, 564, 765, 966, 967};
        int[] ridden = {0, 1, 2, 3, 4, 5, 6, 6, 7, 8, 8};
        for (int n = 0; n <= 10; n++) dueDrawn("by 1", x, n, 1, turned[n], ridden[n]);
        // 16807 times 999999 is 7 times 2147483647, and 1774597664, which by 4 leaves 0; the next one is 1160236262: 2.
        GearRoad y = Due.bike("b99;k20;p10;r20;p40;s0;s0;s0;s0;s0;s0;");
        dueDrawn("by 999999", y, 1, 999999, 1 + 101, 1);
    }

    private static void toCogs() {
        Due.says(0, "if X by 4 leaves 0, a SHIFT to the COG that is 1 more, if it leaves 1, to that which is 1 less,");
        // 51, 101, 201 TURNS; onto them 3, 1, 3.
        GearRoad x = Due.bike("b99;k20;p10;r20;p40;s0;s0;");
        dueDrawn("COG 0", x, 1, MORE, 1 + 101, 1);
        dueDrawn("COG 0, none less", x, 1, LESS, 51, 1);
        dueDrawn("COG 0", x, 1, NOTHING, 51, 1);
        dueDrawn("COG 0", x, 1, NO_RING, 51, 1);
        x.shift(1);
        dueDrawn("COG 1", x, 1, MORE, 3 + 201, 1);
        dueDrawn("COG 1", x, 1, LESS, 3 + 51, 1);
        dueDrawn("COG 1", x, 1, NOTHING, 101, 1);
        x.shift(1);
        dueDrawn("COG 2, none more", x, 1, MORE, 201, 1);
        dueDrawn("COG 2", x, 1, LESS, 1 + 101, 1);
        GearRoad fixed = Due.bike("b99;k20;p10;f40;p10;s0;s0;s0;");
        fixed.shift(1);
        dueDrawn("fixed at 0", fixed, 1, MORE, 3 + 51, 1);
        dueDrawn("fixed at 0", fixed, 1, LESS, 3 + 51, 1);
        fixed.ride();
        dueDrawn("fixed at 1", fixed, 1, MORE, 201, 1);
        dueDrawn("fixed at 1", fixed, 1, LESS, 201, 1);
        fixed.ride();
        dueDrawn("fixed at 2", fixed, 1, MORE, 3 + 51, 1);
        fixed.ride();
        dueDrawn("fixed at THE END, 3", fixed, 1, LESS, 0, 0);
    }

    private static void toRings() {
        Due.says(0, "if it leaves 2, and X by 3 leaves 0, to the RING that is the rest of X by how many there are "
            + "(beside or not, 5 TURNS, if it is another one), each if it may be;");
        // p10 on 20, 25, 50: 51, 41, 21.
        GearRoad x = Due.bike("b99;k20;k25;k50;p10;s0;");
        dueDrawn("RING 0 yet", x, 1, TO_RING, 51, 1);
        x.front(1);
        dueDrawn("RING 0 from 1", x, 1, TO_RING, 5 + 51, 1);
        dueDrawn("RING 1 yet", x, 1, NO_RING, 41, 1);
        dueDrawn("RING 1 yet", x, 1, NOTHING, 41, 1);
        x.front(1);
        dueDrawn("RING 0 from 2, not beside", x, 1, TO_RING, 5 + 51, 1);
        dueDrawn("RING 2 yet", x, 1, NO_RING, 21, 1);
        dueDrawn("RING 2 yet", x, 1, MORE, 21, 1);
        GearRoad two = Due.bike("b99;k20;k25;p10;s0;");
        two.front(1);
        dueDrawn("RING 0 of two", two, 1, TO_RING, 5 + 51, 1);
        GearRoad one = Due.bike("b99;k20;p10;s0;");
        dueDrawn("RING 0 of one", one, 1, TO_RING, 51, 1);
        GearRoad fixed = Due.bike("b99;k20;k25;f10;s0;s0;");
        fixed.front(1);
        fixed.ride();
        dueDrawn("RINGS by a fixed COG at 1", fixed, 1, TO_RING, 5 + 51, 1);
    }

    private static void aboutOrRide() {
        Due.says(0, "then ABOUT, if one is at THE END, else the RIDE, if the PIECE BEARS the GEAR:");
        // p20: 10 times SLOPE and 1: the second PIECE is 100, and 10 the other way.
        GearRoad x = Due.bike("b99;k20;p20;s0;s9;");
        dueDrawn("the second is not borne", x, 60, 1, 101, 1);
        x.strength(9);
        dueDrawn("the first is not borne", x, 60, 1, 0, 0);
        x.strength(10);
        dueDrawn("the first is borne", x, 60, 1, 101, 1);
        x.about();
        Due.due("at THE END", x.count(6), 2);
        dueDrawn("ABOUT alone", x, 1, 1, 0, 0);
        dueDrawn("ABOUT, then a RIDE", x, 2, 1, 101, 1);
        // A SHIFT is made, though nothing is borne, and though one is at THE END.
        GearRoad heavy = Due.bike("b1;k20;p20;r20;s0;");
        dueDrawn("a SHIFT alone", heavy, 1, MORE, 1, 0);
        heavy.about();
        dueDrawn("a SHIFT at THE END", heavy, 1, MORE, 1, 0);
        // By 9 COG 1, an oval one, is borne, COG 0 is not: it is the GEAR behind the SHIFT that counts.
        GearRoad oval = Due.bike("b9;k20;p20;o20;s0;");
        dueDrawn("borne behind the SHIFT", oval, 1, MORE, 3 + 101, 1);
        oval.shift(1);
        dueDrawn("not borne behind the SHIFT", oval, 1, LESS, 3, 0);
    }

    private static void whatIsTold() {
        Due.says(0, "what is TURNED in them; how many PIECES were ridden.");
        GearRoad x = Due.bike("b99;k20;p40;s0;s0;s0;");
        dueDrawn("at first", x, 3, 1, 603, 3);
        x.ride();
        Due.due("TURNED ahead", x.count(7), 201);
        dueDrawn("what was ahead does not count", x, 2, 1, 402, 2);
        dueDrawn("ABOUT is no PIECE", x, 3, 1, 402, 2);
        dueDrawn("no step", x, 0, 1, 0, 0);
    }

    private static void drawn() {
        Due.says(28, "RIDES by a SEED (1 to 999999): TURNED (what = 0), how many (1).");
        GearRoad x = Due.bike("b99;k20;p40;s0;s0;s0;");
        Due.due("drawn(60, 1, 0)", x.drawn(60, 1, 0), 45 * 201);
        Due.due("drawn(60, 1, 1)", x.drawn(60, 1, 1), 45);
        Due.due("drawn(60, 999999, 0)", x.drawn(60, 999999, 0), 45 * 201);
        Due.due("drawn(60, 999999, 1)", x.drawn(60, 999999, 1), 45);
        Due.due("the same again", x.drawn(60, 999999, 1), 45);
    }

    private static void drawnRefused() {
        Due.says(28, "BAD; STATE: no BIKE (ahead of BAD).");
        GearRoad x = Due.bike("b99;k20;p40;s0;s0;s0;");
        GearRoad none = new GearRoad();
        for (int n : new int[] {LEAST, -1, 61, 62, MOST}) {
            for (int what = 0; what <= 1; what++) Due.due("drawn(" + n + ", 1, " + what + ")", x.drawn(n, 1, what), BAD);
            Due.due("drawn(" + n + ", 1, 0) without a BIKE", none.drawn(n, 1, 0), STATE);
        }
        for (int seed : new int[] {LEAST, -1, 0, 1000000, 1000001, MOST}) {
            for (int what = 0; what <= 1; what++) Due.due("drawn(1, " + seed + ", " + what + ")", x.drawn(1, seed, what), BAD);
            Due.due("drawn(1, " + seed + ", 0) without a BIKE", none.drawn(1, seed, 0), STATE);
        }
        for (int what : new int[] {LEAST, -1, 2, 3, MOST}) {
            Due.due("drawn(0, 1, " + what + ")", x.drawn(0, 1, what), BAD);
            Due.due("drawn(0, 1, " + what + ") without a BIKE", none.drawn(0, 1, what), STATE);
        }
        Due.due("drawn(0, 1, 0) without a BIKE", none.drawn(0, 1, 0), STATE);
    }
}
