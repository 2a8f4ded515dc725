/** A BIKE, RIDES, SHIFTS, ABOUT and ACTS: part 2 of "Terms", promises 9 to 18. */
final class ActsEdges {
    private static final int BAD = GearRoad.BAD, STATE = GearRoad.STATE;
    private static final int LEAST = Integer.MIN_VALUE, MOST = Integer.MAX_VALUE;
    private static final String MOST_OF_ALL = "b99;k20;k21;k22;p10;w11;r12;o13;f14;p15;s0;s1;s2;s3;s4;s5;";

    private ActsEdges() {
    }

    static void all() {
        gears();
        load();
        turns();
        bears();
        ridden();
        turnedAtMost();
        turnedOnACogAtMost();
        theEnd();
        shiftsToCogs();
        fixedCogs();
        shiftsToRings();
        about();
        actsKept();
        actsUndone();
        ride();
        shift();
        front();
        aboutCall();
        strength();
        slope();
        undo();
        cog();
        ring();
        piece();
    }

    private static void gears() {
        Due.says(0, "A GEAR is a RING and a COG (its number: 6 times the RING, and the COG).");
        GearRoad x = Due.bike(MOST_OF_ALL);
        for (int ring = 0; ring < 3; ring++) {
            for (int cog = 0; cog < 6; cog++) {
                Due.due("the GEAR as it is", x.count(5), 6 * ring + (ring % 2 == 0 ? cog : 5 - cog));
                x.shift(ring % 2 == 0 ? 1 : -1);
            }
            x.front(1);
        }
        for (int gear = -1; gear <= 18; gear++) Due.due("rounds(" + gear + ")", (x.rounds(gear) != BAD) == (gear >= 0 && gear <= 17));
        GearRoad small = Due.bike("b99;k20;k21;p10;p11;s0;");
        for (int gear = -1; gear <= 18; gear++) {
            boolean there = gear == 0 || gear == 1 || gear == 6 || gear == 7;
            Due.due("rounds(" + gear + ") of four", (small.rounds(gear) != BAD) == there);
        }
    }

    private static void load() {
        Due.says(0, "LOAD of a GEAR on a SLOPE: SLOPE and 1, times TEETH of the RING, times 10, by TEETH of the COG (cut); "
            + "with an oval, a fixed COG a tenth (cut) less.");
        // 200 by 24, 25, 26 is 8.3, 8, 7.6; by 20, 21 it is 10, 9.5; a tenth of 9 is 0, of 10, 11 is 1.
        GearRoad x = Due.bike("b99;k20;p24;w25;r26;p20;p21;p10;s0;");
        int[] plain = {8, 8, 7, 10, 9, 20};
        for (int cog = 0; cog < 6; cog++) Due.due("load(" + cog + ", 0)", x.load(cog, 0), plain[cog]);
        int[] steep = {83, 80, 76, 100, 95, 200};
        for (int cog = 0; cog < 6; cog++) Due.due("load(" + cog + ", 9)", x.load(cog, 9), steep[cog]);
        for (String sort : new String[] {"o", "f"}) {
            String text = "b99;k20;" + sort + "21;" + sort + "20;" + sort + "18;" + sort + "10;s0;";
            GearRoad oval = Due.bike(text);
            int[] less = {9, 9, 10, 18};
            for (int cog = 0; cog < 4; cog++) Due.due("load(" + cog + ", 0) with " + sort, oval.load(cog, 0), less[cog]);
            // Ten times: 95, 100, 111, 200, of which 9, 10, 11, 20 is a tenth.
            int[] steepLess = {86, 90, 100, 180};
            for (int cog = 0; cog < 4; cog++) Due.due("load(" + cog + ", 9) with " + sort, oval.load(cog, 9), steepLess[cog]);
            // 210 by 11, 10 is 19, 21.
            GearRoad beside = Due.bike("b99;k21;" + sort + "11;" + sort + "10;s0;");
            Due.due("19 less 1", beside.load(0, 0), 18);
            Due.due("21 less 2", beside.load(1, 0), 19);
        }
        Due.due("the most", Due.bike("b99;k60;p10;s9;").load(0, 9), 600);
        Due.due("the least", Due.bike("b99;k20;o40;s9;").load(0, 0), 5);
    }

    private static void turns() {
        Due.says(0, "TURNS of a GEAR: 100 times TEETH of the COG, by TEETH of the RING (cut), and 1; with a worn COG a quarter (cut) more.");
        // By 30: 1000, 1100, 1200 are 33.3, 36.6, 40.
        GearRoad x = Due.bike("b99;k30;p10;r11;o12;f12;w12;s0;");
        int[] wants = {34, 37, 41, 41, 51};
        for (int cog = 0; cog < 5; cog++) Due.due("rounds(" + cog + ")", x.rounds(cog), wants[cog]);
        // On 20: 51, 56, 61, 66, 71, 76: a quarter is 12.75, 14, 15.25, 16.5, 17.75, 19.
        GearRoad worn = Due.bike("b99;k20;w10;w11;w12;w13;w14;w15;s0;");
        int[] more = {63, 70, 76, 82, 88, 95};
        for (int cog = 0; cog < 6; cog++) Due.due("rounds(" + cog + ") worn", worn.rounds(cog), more[cog]);
        GearRoad ends = Due.bike("b99;k20;k60;p10;p40;w40;s0;");
        Due.due("the least", ends.rounds(6), 17);
        Due.due("the most", ends.rounds(1), 201);
        Due.due("the most of all", ends.rounds(2), 251);
    }

    private static void bears() {
        Due.says(0, "A PIECE BEARS a GEAR, if LOAD on its SLOPE is STRENGTH or less.");
        GearRoad x = Due.bike("b99;k20;k40;p20;o20;s0;s1;s2;");
        // On SLOPE 1: 20 and 18, with the other RING 40 and 36.
        int[] strengths = {17, 18, 19, 20, 21, 35, 36, 39, 40};
        int[] bits = {0, 2, 2, 3, 3, 3, 131, 131, 195};
        for (int i = 0; i < strengths.length; i++) {
            x.strength(strengths[i]);
            Due.due("piece(1, 1) by " + strengths[i], x.piece(1, 1), bits[i]);
        }
        GearRoad one = Due.bike("b9;k20;p20;s0;");
        Due.due("LOAD is 1 more than STRENGTH", one.ride(), STATE);
        one.strength(10);
        Due.due("LOAD is STRENGTH", one.ride(), 101);
        one.undo();
        one.strength(11);
        Due.due("LOAD is 1 less", one.ride(), 101);
        // 210 by 20 is 10.5, cut.
        GearRoad cut = Due.bike("b10;k21;p20;s0;");
        Due.due("LOAD that is cut is STRENGTH", cut.ride(), 96);
    }

    private static void ridden() {
        Due.says(0, "A RIDE: the PIECE, if it BEARS the GEAR, is ridden;");
        GearRoad x = Due.bike("b20;k20;p20;s1;s2;s1;");
        Due.due("ride()", x.ride(), 101);
        Due.due("at", x.count(6), 1);
        Due.due("too steep", x.ride(), STATE);
        Due.due("at yet", x.count(6), 1);
        Due.due("TURNED yet", x.count(7), 101);
        Due.due("TURNED on it yet", x.cog(0, 1), 101);
        Due.due("ACTS yet", x.count(8), 1);
        x.strength(30);
        Due.due("borne", x.ride(), 101);
        Due.due("at the next", x.count(6), 2);
    }

    /** Rides on to and fro, so often: 251 TURNS each with w40 on k20, whichever the SLOPE. */
    private static void rideOften(GearRoad x, int times) {
        for (int n = 0; n < times; n++) {
            if (x.count(6) == 6) x.about();
            if (x.ride() != 251) Due.due("ride() of 251", false);
        }
    }

    /** As rideOften, but without asking where one is: for 398 RIDES there would be more than 512 calls. */
    private static void rideOn(GearRoad x, int from, int times) {
        int at = from;
        for (int n = 0; n < times; n++, at++) {
            if (at == 6) {
                x.about();
                at = 0;
            }
            if (x.ride() != 251) Due.due("ride() of 251", false);
        }
    }

    private static void turnedAtMost() {
        Due.says(0, "TURNS are TURNED (99999 at most;");
        // A first RIDE, 3 for the COG, 5 for the RING, and 398 times 251.
        String[] gears = {"k23;k20;p21;w40;", "k25;k20;p23;w40;", "k30;k20;p28;w40;"};
        int[] first = {92, 93, 94};
        int[] wants = {99998, 99999, 99999};
        for (int i = 0; i < 3; i++) {
            GearRoad x = Due.bike("b99;" + gears[i] + "s0;s0;s0;s0;s0;s0;");
            Due.due("the first RIDE", x.ride(), first[i]);
            x.shift(1);
            x.front(1);
            rideOn(x, 1, 398);
            Due.due("TURNED by " + (first[i] + 8 + 398 * 251), x.count(7), wants[i]);
            Due.due("TURNED on the COG", x.cog(1, 1), 3 + 398 * 251);
            Due.due("one SHIFT more", i == 2 ? x.front(-1) : x.shift(-1), 0);
            Due.due("TURNED with it", x.count(7), 99999);
            x.undo();
            Due.due("TURNED without it", x.count(7), wants[i]);
        }
        GearRoad few = Due.bike("b99;k20;w40;s0;s0;s0;s0;s0;s0;");
        rideOften(few, 20);
        Due.due("TURNED by 20 RIDES", few.count(7), 20 * 251);
    }

    private static void turnedOnACogAtMost() {
        Due.says(0, "on that COG, too);");
        String[] rings = {"k44;k21;k20;", "k50;k20;", "k49;k20;"};
        int[][] firsts = {{113, 238}, {101}, {102}};
        int[] wants = {99998, 99999, 99999};
        for (int i = 0; i < 3; i++) {
            GearRoad x = Due.bike("b99;" + rings[i] + "w40;s0;s0;s0;s0;s0;s0;");
            for (int turns : firsts[i]) {
                Due.due("a RIDE ahead", x.ride(), turns);
                x.front(1);
            }
            rideOn(x, firsts[i].length, 399 - firsts[i].length);
            Due.due("TURNED on the COG", x.cog(0, 1), wants[i]);
            Due.due("TURNED", x.count(7), 99999);
            Due.due("one RIDE more", x.ride(), 251);
            Due.due("TURNED on the COG with it", x.cog(0, 1), 99999);
            x.undo();
            Due.due("TURNED on the COG without it", x.cog(0, 1), wants[i]);
        }
    }

    private static void theEnd() {
        Due.says(0, "one is at the next PIECE, behind the last one at THE END (told as how many PIECES there are).");
        for (int n = 1; n <= 6; n++) {
            GearRoad x = Due.bike("b99;k20;p20;" + "s0;".repeat(n));
            for (int piece = 0; piece < n; piece++) {
                Due.due("count(6)", x.count(6), piece);
                Due.due("ride()", x.ride(), 101);
            }
            Due.due("count(6) at THE END", x.count(6), n);
            Due.due("ride() at THE END", x.ride(), STATE);
            Due.due("count(6) yet", x.count(6), n);
            Due.due("TURNED", x.count(7), 101 * n);
        }
    }

    private static void shiftsToCogs() {
        Due.says(0, "SHIFTS: to the COG beside (1 more, or less), 1 TURN onto a ramped one, else 3, that are TURNED on the COG onto which one shifts;");
        GearRoad x = Due.bike("b99;k20;p10;w11;r12;o13;f14;r15;s0;");
        int[] onto = {3, 3, 1, 3, 3, 1};
        int[] on = new int[6];
        int turned = 0;
        for (int step = 1; step <= 10; step++) {
            int to = step <= 5 ? step : 10 - step;
            Due.due("shift", x.shift(step <= 5 ? 1 : -1), to);
            on[to] += onto[to];
            turned += onto[to];
            Due.due("TURNED", x.count(7), turned);
            for (int cog = 0; cog < 6; cog++) Due.due("TURNED on " + cog, x.cog(cog, 1), on[cog]);
            Due.due("the GEAR", x.count(5), to);
        }
    }

    private static void fixedCogs() {
        Due.says(0, "from a fixed COG just at PIECES (THE END, too) whose number is even.");
        for (int pieces = 1; pieces <= 6; pieces++) {
            GearRoad x = Due.bike("b99;k20;p40;f40;p40;" + "s0;".repeat(pieces));
            for (int piece = 0; piece <= pieces; piece++) {
                boolean even = piece % 2 == 0;
                Due.due("onto a fixed one at " + piece, x.shift(1), 1);
                Due.due("cog(1, 3) at " + piece, x.cog(1, 3), even ? 1 : 0);
                Due.due("cog(0, 3) at " + piece, x.cog(0, 3), 1);
                Due.due("one more at " + piece, x.shift(1), even ? 2 : STATE);
                if (even) x.undo();
                Due.due("one less at " + piece, x.shift(-1), even ? 0 : STATE);
                if (!even) x.undo();
                Due.due("COG 0 again", x.count(5), 0);
                x.ride();
            }
        }
        // Any other one may be left wherever one is.
        for (String sort : new String[] {"p", "w", "r", "o"}) {
            GearRoad x = Due.bike("b99;k20;" + sort + "40;p40;s0;s0;");
            for (int piece = 0; piece <= 2; piece++) {
                Due.due("leave " + sort + " at " + piece, x.shift(1), 1);
                x.shift(-1);
                x.ride();
            }
        }
    }

    private static void shiftsToRings() {
        Due.says(0, "To the RING beside, 5 TURNS, that are TURNED on no COG.");
        GearRoad x = Due.bike("b99;k20;k21;k22;f40;p10;s0;s0;");
        x.ride();
        int on = x.cog(0, 1);
        int[] steps = {1, 1, -1, -1, 1};
        int[] rings = {1, 2, 1, 0, 1};
        for (int i = 0; i < 5; i++) {
            Due.due("front(" + steps[i] + ") from a fixed COG at PIECE 1", x.front(steps[i]), rings[i]);
            Due.due("TURNED", x.count(7), on + 5 * (i + 1));
            Due.due("TURNED on 0", x.cog(0, 1), on);
            Due.due("TURNED on 1", x.cog(1, 1), 0);
            Due.due("the GEAR", x.count(5), 6 * rings[i]);
        }
    }

    private static void about() {
        Due.says(0, "ABOUT: the road the other way: the PIECES in the other order, each SLOPE 9 less it; "
            + "one is at the PIECE that is as many from THE END as one was from PIECE 0.");
        int[] slopes = {0, 9, 1, 8, 4, 5};
        for (int n = 1; n <= 6; n++) {
            StringBuilder text = new StringBuilder("b99;k20;p40;");
            for (int i = 0; i < n; i++) text.append('s').append(slopes[i]).append(';');
            for (int at = 0; at <= n; at++) {
                GearRoad x = Due.bike(text.toString());
                for (int i = 0; i < at; i++) x.ride();
                Due.due("about() at " + at + " of " + n, x.about(), n - at);
                for (int i = 0; i < n; i++) Due.due("SLOPE of " + i, x.piece(i, 0), 9 - slopes[n - 1 - i]);
                Due.due("TURNED", x.count(7), 201 * at);
                Due.due("about() again", x.about(), at);
                for (int i = 0; i < n; i++) Due.due("SLOPE of " + i + " again", x.piece(i, 0), slopes[i]);
            }
        }
    }

    private static void actsKept() {
        Due.says(0, "ACTS (24 at most are kept, of more the oldest is forgotten;");
        for (int n : new int[] {23, 24, 25, 26, 47, 48, 49}) {
            GearRoad x = Due.bike("b99;k20;p40;s0;");
            for (int v = 1; v <= n; v++) {
                x.strength(v);
                Due.due("count(8)", x.count(8), Math.min(24, v));
            }
            int kept = Math.min(24, n);
            for (int left = kept - 1; left >= 0; left--) {
                Due.due("undo()", x.undo(), left);
                Due.due("STRENGTH then", x.count(4), n - kept + left == 0 ? 99 : n - kept + left);
            }
            Due.due("undo() of none", x.undo(), STATE);
            Due.due("STRENGTH at last", x.count(4), n <= 24 ? 99 : n - 24);
        }
        // 24, of which 10 are undone, and 20 more: the oldest 10 are forgotten.
        GearRoad x = Due.bike("b99;k20;p40;s0;");
        for (int v = 1; v <= 24; v++) x.strength(v);
        for (int n = 0; n < 10; n++) x.undo();
        for (int v = 51; v <= 70; v++) x.strength(v);
        Due.due("count(8)", x.count(8), 24);
        for (int left = 23; left >= 0; left--) {
            Due.due("undo()", x.undo(), left);
            Due.due("STRENGTH then", x.count(4), left + 10 <= 14 ? left + 10 : left + 46);
        }
        Due.due("undo() of none", x.undo(), STATE);
    }

    private static void actsUndone() {
        Due.says(0, "each can be undone, the latest first): a RIDE; a SHIFT to a COG, a RING; ABOUT; STRENGTH, a SLOPE is another.");
        for (int kind = 0; kind < 6; kind++) {
            GearRoad x = Due.bike("b99;k20;k40;p40;r20;s1;s2;s3;");
            GearRoad twin = Due.bike("b99;k20;k40;p40;r20;s1;s2;s3;");
            act(kind, x);
            Due.due("one ACT", x.count(8), 1);
            Due.due("undo()", x.undo(), 0);
            Twins.same("ACT " + kind + " undone", x, twin);
            GearRoad all = Due.bike("b99;k20;k40;p40;r20;s1;s2;s3;");
            GearRoad allTwin = Due.bike("b99;k20;k40;p40;r20;s1;s2;s3;");
            for (int before = 0; before < kind; before++) {
                act(before, all);
                act(before, allTwin);
            }
            act(kind, all);
            Due.due("undo() of the latest", all.undo(), kind);
            Twins.same("ACT " + kind + " undone, the latest", all, allTwin);
        }
    }

    private static void act(int kind, GearRoad x) {
        switch (kind) {
            case 0: x.ride(); break;
            case 1: x.shift(1); break;
            case 2: x.front(1); break;
            case 3: x.about(); break;
            case 4: x.strength(50); break;
            default: x.slope(2, 9);
        }
    }

    private static void ride() {
        Due.says(9, "A RIDE: its TURNS.");
        GearRoad x = Due.bike("b99;k20;k60;p10;w40;s0;s1;s2;");
        Due.due("ride() in 0", x.ride(), 51);
        x.shift(1);
        Due.due("ride() in 1", x.ride(), 251);
        x.front(1);
        Due.due("ride() in 7", x.ride(), 83);
        Due.says(9, "STATE: no BIKE, at THE END, the PIECE does not BEAR the GEAR.");
        Due.due("at THE END", x.ride(), STATE);
        Due.due("no BIKE", new GearRoad().ride(), STATE);
        GearRoad heavy = Due.bike("b9;k20;p20;s0;");
        Due.due("not borne", heavy.ride(), STATE);
        Due.due("nothing TURNED", heavy.count(7), 0);
        Due.due("no ACT", heavy.count(8), 0);
        heavy.strength(10);
        Due.due("borne", heavy.ride(), 101);
    }

    private static void shift() {
        Due.says(10, "A SHIFT to the COG that is by (-1, 1) more: its number.");
        GearRoad x = Due.bike(MOST_OF_ALL);
        for (int cog = 1; cog <= 5; cog++) Due.due("shift(1)", x.shift(1), cog);
        for (int cog = 4; cog >= 0; cog--) Due.due("shift(-1)", x.shift(-1), cog);
        Due.says(10, "BAD; STATE: no BIKE (ahead of BAD), there is none, it may not be left.");
        for (int by : new int[] {LEAST, -2, 0, 2, MOST}) {
            Due.due("shift(" + by + ")", x.shift(by), BAD);
            Due.due("shift(" + by + ") without a BIKE", new GearRoad().shift(by), STATE);
        }
        Due.due("shift(1) without a BIKE", new GearRoad().shift(1), STATE);
        Due.due("none below the first", x.shift(-1), STATE);
        Due.due("COG 0 yet", x.count(5), 0);
        for (int cog = 1; cog <= 5; cog++) x.shift(1);
        int acts = x.count(8);
        Due.due("none above the last", x.shift(1), STATE);
        Due.due("COG 5 yet", x.count(5), 5);
        Due.due("no ACT more", x.count(8), acts);
        GearRoad one = Due.bike("b99;k20;k21;f40;s0;s0;");
        Due.due("none above a single one", one.shift(1), STATE);
        Due.due("none below a single one", one.shift(-1), STATE);
        GearRoad fixed = Due.bike("b99;k20;f40;p40;s0;s0;");
        fixed.ride();
        Due.due("it may not be left", fixed.shift(1), STATE);
        Due.due("BAD where it may not be left", fixed.shift(2), BAD);
        Due.due("TURNED yet", fixed.count(7), 201);
        fixed.ride();
        Due.due("it may be left", fixed.shift(1), 1);
    }

    private static void front() {
        Due.says(11, "A SHIFT to the RING that is by (-1, 1) more: its number.");
        GearRoad x = Due.bike(MOST_OF_ALL);
        int[] steps = {1, 1, -1, -1};
        int[] rings = {1, 2, 1, 0};
        for (int i = 0; i < 4; i++) Due.due("front(" + steps[i] + ")", x.front(steps[i]), rings[i]);
        Due.says(11, "BAD; STATE: no BIKE (ahead of BAD), there is none.");
        for (int by : new int[] {LEAST, -2, 0, 2, MOST}) {
            Due.due("front(" + by + ")", x.front(by), BAD);
            Due.due("front(" + by + ") without a BIKE", new GearRoad().front(by), STATE);
        }
        Due.due("front(1) without a BIKE", new GearRoad().front(1), STATE);
        Due.due("none below the first", x.front(-1), STATE);
        x.front(1);
        x.front(1);
        Due.due("none above the last", x.front(1), STATE);
        Due.due("RING 2 yet", x.count(5), 12);
        Due.due("TURNED", x.count(7), 30);
        Due.due("ACTS", x.count(8), 6);
        GearRoad one = Due.bike("b99;k20;p40;p40;s0;");
        Due.due("none above a single one", one.front(1), STATE);
        Due.due("none below a single one", one.front(-1), STATE);
    }

    private static void aboutCall() {
        Due.says(12, "ABOUT: the PIECE at which one is then.");
        GearRoad x = Due.bike("b99;k20;p40;s1;s2;s3;");
        Due.due("about() at 0", x.about(), 3);
        Due.due("about() at THE END", x.about(), 0);
        x.ride();
        Due.due("about() at 1", x.about(), 2);
        Due.due("count(6)", x.count(6), 2);
        Due.due("ACTS", x.count(8), 4);
        Due.says(12, "STATE: no BIKE.");
        Due.due("about() without a BIKE", new GearRoad().about(), STATE);
    }

    private static void strength() {
        Due.says(13, "STRENGTH is v (1 to 99): what it was.");
        GearRoad x = Due.bike("b40;k20;p40;s1;");
        int[] vs = {1, 2, 98, 99};
        int[] was = {40, 1, 2, 98};
        for (int i = 0; i < 4; i++) {
            Due.due("strength(" + vs[i] + ")", x.strength(vs[i]), was[i]);
            Due.due("count(4)", x.count(4), vs[i]);
        }
        Due.says(13, "BAD; STATE: no BIKE (ahead of BAD).");
        for (int v : new int[] {LEAST, -1, 0, 100, 101, MOST}) {
            Due.due("strength(" + v + ")", x.strength(v), BAD);
            Due.due("strength(" + v + ") without a BIKE", new GearRoad().strength(v), STATE);
        }
        Due.due("count(4) yet", x.count(4), 99);
        Due.due("ACTS yet", x.count(8), 4);
        Due.due("strength(1) without a BIKE", new GearRoad().strength(1), STATE);
    }

    private static void slope() {
        Due.says(14, "SLOPE of a PIECE is v (0 to 9): what it was.");
        GearRoad x = Due.bike("b99;k20;p40;s1;s5;s3;");
        int[] vs = {0, 1, 8, 9};
        for (int piece : new int[] {0, 2}) {
            int was = piece + 1;
            for (int v : vs) {
                Due.due("slope(" + piece + ", " + v + ")", x.slope(piece, v), was);
                Due.due("piece(" + piece + ", 0)", x.piece(piece, 0), v);
                was = v;
            }
        }
        Due.due("the other one", x.piece(1, 0), 5);
        Due.says(14, "BAD.");
        for (int v : new int[] {LEAST, -1, 10, 11, MOST}) Due.due("slope(1, " + v + ")", x.slope(1, v), BAD);
        for (int piece : new int[] {LEAST, -1, 3, 5, 6, MOST}) Due.due("slope(" + piece + ", 0)", x.slope(piece, 0), BAD);
        Due.due("the other one yet", x.piece(1, 0), 5);
        Due.due("ACTS yet", x.count(8), 8);
        Due.due("slope(0, 0) without a BIKE", new GearRoad().slope(0, 0), BAD);
        GearRoad six = Due.bike(MOST_OF_ALL);
        Due.due("slope(5, 9)", six.slope(5, 9), 5);
        Due.due("slope(6, 9)", six.slope(6, 9), BAD);
    }

    private static void undo() {
        Due.says(15, "The latest ACT is undone: how many can be undone yet.");
        GearRoad x = Due.bike("b99;k20;p40;s1;");
        x.strength(1);
        x.strength(2);
        x.strength(3);
        int[] were = {2, 1, 99};
        for (int left = 2; left >= 0; left--) {
            Due.due("undo()", x.undo(), left);
            Due.due("count(8)", x.count(8), left);
            Due.due("STRENGTH", x.count(4), were[2 - left]);
        }
        Due.says(15, "STATE: none.");
        Due.due("undo() of none", x.undo(), STATE);
        Due.due("STRENGTH yet", x.count(4), 99);
        Due.due("undo() without a BIKE", new GearRoad().undo(), STATE);
        Due.due("undo() of a new BIKE", Due.bike("b99;k20;p40;s1;").undo(), STATE);
        x.about();
        Due.due("undo() of one", x.undo(), 0);
        Due.due("undo() of none again", x.undo(), STATE);
    }

    private static void cog() {
        Due.says(16, "Of a COG: 0 TEETH, 1 what was TURNED on it, 2 how many TURNS a SHIFT onto it takes, 3 whether it may be left at this PIECE (1, 0).");
        GearRoad x = Due.bike("b99;k20;p40;w11;r12;o13;f14;s0;s0;");
        x.ride();
        x.shift(1);
        int[][] wants = {{40, 201, 3, 1}, {11, 3, 3, 1}, {12, 0, 1, 1}, {13, 0, 3, 1}, {14, 0, 3, 0}};
        for (int cog = 0; cog < 5; cog++) {
            for (int what = 0; what < 4; what++) Due.due("cog(" + cog + ", " + what + ")", x.cog(cog, what), wants[cog][what]);
        }
        x.ride();
        Due.due("cog(4, 3) at THE END, 2", x.cog(4, 3), 1);
        x.undo();
        x.undo();
        x.undo();
        Due.due("cog(4, 3) at 0", x.cog(4, 3), 1);
        Due.says(16, "BAD.");
        for (int cog : new int[] {LEAST, -1, 5, 6, MOST}) Due.due("cog(" + cog + ", 0)", x.cog(cog, 0), BAD);
        for (int what : new int[] {LEAST, -1, 4, 5, MOST}) Due.due("cog(0, " + what + ")", x.cog(0, what), BAD);
        for (int what = 0; what < 4; what++) Due.due("cog(0, " + what + ") without a BIKE", new GearRoad().cog(0, what), BAD);
        Due.due("cog(5, 0) of six", Due.bike(MOST_OF_ALL).cog(5, 0), 15);
        Due.due("cog(6, 0) of six", Due.bike(MOST_OF_ALL).cog(6, 0), BAD);
    }

    private static void ring() {
        Due.says(17, "TEETH of a RING.");
        GearRoad x = Due.bike("b99;k20;k60;k41;p40;s0;");
        int[] teeth = {20, 60, 41};
        for (int ring = 0; ring < 3; ring++) Due.due("ring(" + ring + ")", x.ring(ring), teeth[ring]);
        Due.says(17, "BAD.");
        for (int ring : new int[] {LEAST, -1, 3, 4, MOST}) Due.due("ring(" + ring + ")", x.ring(ring), BAD);
        GearRoad one = Due.bike("b99;k20;p40;s0;");
        Due.due("ring(0) of one", one.ring(0), 20);
        Due.due("ring(1) of one", one.ring(1), BAD);
        Due.due("ring(0) without a BIKE", new GearRoad().ring(0), BAD);
    }

    private static void piece() {
        Due.says(18, "Of a PIECE: 0 SLOPE, 1 GEARS (bits) that it BEARS, 2 LOAD of the GEAR as it is.");
        GearRoad x = Due.bike("b99;k20;k40;k60;p10;p20;o20;p30;f40;p40;s0;s9;s4;");
        int[] slopes = {0, 9, 4};
        int[] loads = {20, 200, 100};
        for (int piece = 0; piece < 3; piece++) {
            Due.due("piece(" + piece + ", 0)", x.piece(piece, 0), slopes[piece]);
            Due.due("piece(" + piece + ", 2)", x.piece(piece, 2), loads[piece]);
            int bits = 0;
            for (int gear = 0; gear < 18; gear++) if (x.load(gear, slopes[piece]) <= 99) bits |= 1 << gear;
            Due.due("piece(" + piece + ", 1)", x.piece(piece, 1), bits);
        }
        Due.due("all GEARS", x.piece(0, 1), (1 << 18) - 1);
        x.strength(1);
        Due.due("no GEAR", x.piece(0, 1), 0);
        x.front(1);
        x.shift(1);
        Due.due("LOAD of GEAR 7", x.piece(2, 2), 100);
        // On SLOPE 9: 200, 100, 90, 66, 45, 50 with RING 0; 90 at least with RING 1 are those of 40 TEETH, 90 and 100.
        x.strength(90);
        Due.due("the GEARS that are 90 or less", x.piece(1, 1), 4 + 8 + 16 + 32 + (1 << 10));
        Due.says(18, "BAD.");
        for (int piece : new int[] {LEAST, -1, 3, 5, MOST}) Due.due("piece(" + piece + ", 0)", x.piece(piece, 0), BAD);
        for (int what : new int[] {LEAST, -1, 3, 4, MOST}) Due.due("piece(0, " + what + ")", x.piece(0, what), BAD);
        for (int what = 0; what < 3; what++) Due.due("piece(0, " + what + ") without a BIKE", new GearRoad().piece(0, what), BAD);
        Due.due("piece(5, 0) of six", Due.bike(MOST_OF_ALL).piece(5, 0), 5);
        Due.due("piece(6, 0) of six", Due.bike(MOST_OF_ALL).piece(6, 0), BAD);
    }
}
