/** IMAGES, KINDS, ASKS and counts: part 4 of "Terms", promises 29 to 35. */
final class AskedEdges {
    private static final int NONE = GearRoad.NONE, BAD = GearRoad.BAD, STATE = GearRoad.STATE;
    private static final int KIND = -1000013;
    private static final int LEAST = Integer.MIN_VALUE, MOST = Integer.MAX_VALUE;
    /** COGS 0 to 4 are of KINDS 1 to 5. */
    private static final String FIVE = "b99;k20;k30;p40;w16;r20;o28;f32;s0;s1;s2;";

    private AskedEdges() {
    }

    static void all() {
        kinds();
        theTrace();
        sizes();
        marks();
        nearest();
        image();
        restore();
        kind();
        as();
        ask();
        trace();
        count();
    }

    private static void kinds() {
        Due.says(0, "KINDS of COGS: 0 COG; 1 PLAIN, a COG; 2 WORN, a PLAIN; 3 RAMPED, a PLAIN; 4 OVAL, a COG; 5 FIXED, an OVAL. By this it is asked.");
        GearRoad x = Due.bike(FIVE);
        int[] bits = {1 + 2, 1 + 2 + 4, 1 + 2 + 8, 1 + 16, 1 + 16 + 32};
        for (int cog = 0; cog < 5; cog++) {
            for (int kind = 0; kind <= 5; kind++) {
                boolean is = (bits[cog] >> kind & 1) == 1;
                Due.due("as(" + cog + ", " + kind + ")", x.as(cog, kind), is ? cog : KIND);
            }
        }
    }

    private static void dueAsk(GearRoad x, int cog, int what, int want, int... bodies) {
        Due.due("ask(" + cog + ", " + what + ")", x.ask(cog, what), want);
        for (int i = 0; i <= 16; i++) {
            Due.due("ask(" + cog + ", " + what + "): trace(" + i + ")", x.trace(i), i < bodies.length ? bodies[i] : NONE);
        }
    }

    private static void theTrace() {
        Due.says(0, "ASKS of COGS, by BODIES, each of which leaves its number in THE TRACE as it begins (the first 16):");
        // None leaves more than six; what is behind them is NONE, up to the 16th and behind it.
        GearRoad x = Due.bike(FIVE);
        dueAsk(x, 1, 0, -(16 + 2), 12, 11, 10, 24, 21, 20);
        dueAsk(x, 4, 1, 4 + 136, 23, 20, 14, 13, 10);
        dueAsk(x, 0, 1, 0, 21, 20);
        for (int i : new int[] {15, 16, 17, MOST, -1, LEAST}) Due.due("trace(" + i + ")", x.trace(i), NONE);
        // Many ASKS do not fill it: each begins anew.
        for (int n = 0; n < 20; n++) x.ask(1, 0);
        dueAsk(x, 3, 0, 28 - 100, 13, 10);
    }

    private static void sizes() {
        Due.says(0, "0 SIZE: 10 lent to all COGS: TEETH.");
        // 10 is begun by others alone, as each COG is a PLAIN or an OVAL one.
        GearRoad x = Due.bike(FIVE);
        x.ask(3, 0);
        Due.due("10 within 13", x.trace(1), 10);
        Due.says(0, "11 of PLAIN ones: what 10 gives, and MARK.");
        dueAsk(x, 0, 0, 40, 11, 10, 21, 20);
        x.ride();
        dueAsk(x, 0, 0, 40 + 201, 11, 10, 21, 20);
        Due.says(0, "12 of WORN ones: 0 less what 11 gives.");
        dueAsk(x, 1, 0, -(16 + 2), 12, 11, 10, 24, 21, 20);
        x.shift(1);
        dueAsk(x, 1, 0, -(16 + 2 * (1 + 3)), 12, 11, 10, 24, 21, 20);
        Due.says(0, "13 of OVAL ones: what 10 gives, less 100.");
        dueAsk(x, 3, 0, -72, 13, 10);
        Due.due("with the least TEETH", Due.bike("b99;k20;o10;s0;").ask(0, 0), -90);
        Due.due("with the most TEETH", Due.bike("b99;k20;o40;s0;").ask(0, 0), -60);
        Due.says(0, "14 of FIXED ones: what 13 gives, twice.");
        dueAsk(x, 4, 0, -136, 14, 13, 10);
    }

    private static void marks() {
        Due.says(0, "1 MARK: 20 lent to all COGS: the number.");
        GearRoad x = Due.bike(FIVE);
        x.ask(3, 1);
        Due.due("20 within 23", x.trace(1), 20);
        GearRoad six = Due.bike("b99;k20;p10;p10;p10;p10;p10;p10;s0;");
        for (int cog = 0; cog < 6; cog++) Due.due("the number of " + cog, six.ask(cog, 1), cog);
        Due.says(0, "21 of PLAIN ones: what 20 gives, and what was TURNED on it.");
        six.shift(1);
        six.ride();
        dueAsk(six, 1, 1, 1 + 3 + 51, 21, 20);
        dueAsk(six, 2, 1, 2, 21, 20);
        Due.says(0, "22 of RAMPED ones: what 21 gives, less 1000.");
        dueAsk(x, 2, 1, 2 - 1000, 22, 21, 20);
        x.shift(1);
        x.shift(1);
        dueAsk(x, 2, 1, 2 + 1 - 1000, 22, 21, 20);
        dueAsk(x, 2, 0, 20 + 2 + 1 - 1000, 11, 10, 22, 21, 20);
        Due.says(0, "23 of OVAL ones: what 20 gives, less SIZE.");
        dueAsk(x, 3, 1, 3 + 72, 23, 20, 13, 10);
        x.shift(1);
        dueAsk(x, 3, 1, 3 + 72, 23, 20, 13, 10);
        Due.says(0, "24 of WORN ones: what 21 gives, twice.");
        dueAsk(x, 1, 1, 2 * (1 + 3), 24, 21, 20);
    }

    private static void nearest() {
        Due.says(0, "(Of an ask the BODY told for the KIND begins, else that of the nearest KIND that it is, too, else the one that is lent; "
            + "SIZE, MARK within others are asked of the same COG anew.)");
        GearRoad x = Due.bike(FIVE);
        int[][] first = {{11, 21}, {12, 24}, {11, 22}, {13, 23}, {14, 23}};
        for (int cog = 0; cog < 5; cog++) {
            for (int what = 0; what <= 1; what++) {
                x.ask(cog, what);
                Due.due("the first BODY of ask(" + cog + ", " + what + ")", x.trace(0), first[cog][what]);
            }
        }
        // MARK within 11 of a WORN, a RAMPED one, and SIZE within 23 of a FIXED one, are those of its own KIND.
        x.ask(1, 0);
        Due.due("MARK within 11 of a WORN one", x.trace(3), 24);
        x.ask(2, 0);
        Due.due("MARK within 11 of a RAMPED one", x.trace(2), 22);
        dueAsk(x, 4, 1, 4 + 136, 23, 20, 14, 13, 10);
    }

    private static void image() {
        Due.says(29, "An IMAGE (0, 1) is kept of the BIKE: 1.");
        for (int k = 0; k <= 1; k++) {
            GearRoad x = Due.bike(FIVE);
            x.ride();
            Due.due("image(" + k + ")", x.image(k), 1);
            Due.due("ACTS stay", x.count(8), 1);
            x.ride();
            Due.due("the other one was not kept", x.restore(1 - k), STATE);
            Due.due("restore(" + k + ")", x.restore(k), 1);
            Due.due("at", x.count(6), 1);
            x.shift(1);
            Due.due("image(" + k + ") anew", x.image(k), 1);
            x.shift(1);
            x.restore(k);
            Due.due("the GEAR of the later one", x.count(5), 1);
        }
        Due.says(29, "BAD; STATE: no BIKE.");
        GearRoad x = Due.bike(FIVE);
        for (int k : new int[] {LEAST, -1, 2, 3, MOST}) {
            Due.due("image(" + k + ")", x.image(k), BAD);
            Due.due("image(" + k + ") without a BIKE", new GearRoad().image(k), BAD);
        }
        for (int k = 0; k <= 1; k++) {
            Due.due("image(" + k + ") without a BIKE", new GearRoad().image(k), STATE);
            Due.due("none was kept", x.restore(k), STATE);
        }
    }

    private static void restore() {
        Due.says(30, "The BIKE is as an IMAGE kept it (no ACT can be undone then): 1.");
        GearRoad x = Due.bike(FIVE);
        GearRoad twin = Due.bike(FIVE);
        for (GearRoad each : new GearRoad[] {x, twin}) {
            each.ride();
            each.front(1);
            each.shift(1);
            each.slope(2, 7);
            each.strength(77);
            each.image(0);
        }
        x.ride();
        x.about();
        x.front(-1);
        x.shift(-1);
        x.slope(1, 9);
        x.strength(1);
        Due.due("restore(0)", x.restore(0), 1);
        Due.due("no ACT can be undone", x.count(8), 0);
        Due.due("undo()", x.undo(), STATE);
        twin.restore(0);
        Twins.same("restored", x, twin);
        GearRoad other = Due.bike(FIVE);
        other.image(1);
        Due.read(other, "b5;k60;p10;s9;");
        Due.due("an IMAGE of the BIKE before", other.restore(1), 1);
        Due.due("its COGS", other.count(1), 5);
        Due.due("its KIND", other.kind(4), 5);
        Due.says(30, "BAD; STATE: none was kept.");
        for (int k : new int[] {LEAST, -1, 2, 3, MOST}) Due.due("restore(" + k + ")", other.restore(k), BAD);
        Due.due("restore(0)", other.restore(0), STATE);
        other.ride();
        Due.due("restore(0) again", other.restore(0), STATE);
        Due.due("ACTS stay", other.count(8), 1);
        for (int k : new int[] {-1, 2}) Due.due("restore(" + k + ") without a BIKE", new GearRoad().restore(k), BAD);
        for (int k = 0; k <= 1; k++) Due.due("restore(" + k + ") without a BIKE", new GearRoad().restore(k), STATE);
    }

    private static void kind() {
        Due.says(31, "The KIND of a COG, as told (1 to 5).");
        GearRoad x = Due.bike(FIVE);
        for (int cog = 0; cog < 5; cog++) Due.due("kind(" + cog + ")", x.kind(cog), cog + 1);
        Due.says(31, "BAD.");
        for (int cog : new int[] {LEAST, -1, 5, 6, MOST}) Due.due("kind(" + cog + ")", x.kind(cog), BAD);
        GearRoad six = Due.bike("b99;k20;p10;p10;p10;p10;p10;f10;s0;");
        Due.due("kind(5) of six", six.kind(5), 5);
        Due.due("kind(6) of six", six.kind(6), BAD);
        Due.due("kind(0) without a BIKE", new GearRoad().kind(0), BAD);
    }

    private static void as() {
        Due.says(32, "A COG is taken as one of a KIND (0 .. 5): its number.");
        GearRoad x = Due.bike(FIVE);
        for (int cog = 0; cog < 5; cog++) {
            Due.due("as(" + cog + ", 0)", x.as(cog, 0), cog);
            Due.due("as(" + cog + ", its own)", x.as(cog, cog + 1), cog);
        }
        Due.says(32, "BAD; KIND: it is no such one.");
        for (int cog : new int[] {LEAST, -1, 5, 6, MOST}) Due.due("as(" + cog + ", 0)", x.as(cog, 0), BAD);
        for (int kind : new int[] {LEAST, -1, 6, 7, MOST}) Due.due("as(0, " + kind + ")", x.as(0, kind), BAD);
        Due.due("BAD ahead of KIND", x.as(5, 5), BAD);
        Due.due("a PLAIN one is no WORN one", x.as(0, 2), KIND);
        Due.due("a WORN one is no RAMPED one", x.as(1, 3), KIND);
        Due.due("an OVAL one is no FIXED one", x.as(3, 5), KIND);
        Due.due("a FIXED one is no PLAIN one", x.as(4, 1), KIND);
        Due.due("its KIND stays", x.kind(4), 5);
        Due.due("as(0, 0) without a BIKE", new GearRoad().as(0, 0), BAD);
        Due.due("as(0, 5) without a BIKE", new GearRoad().as(0, 5), BAD);
    }

    private static void ask() {
        Due.says(33, "An ASK (0, 1) of a COG.");
        GearRoad x = Due.bike(FIVE);
        int[][] wants = {{40, 0}, {-18, 2}, {20 + 2 - 1000, 2 - 1000}, {-72, 75}, {-136, 140}};
        for (int cog = 0; cog < 5; cog++) {
            for (int what = 0; what <= 1; what++) Due.due("ask(" + cog + ", " + what + ")", x.ask(cog, what), wants[cog][what]);
        }
        Due.says(33, "BAD.");
        x.ask(3, 0);
        for (int cog : new int[] {LEAST, -1, 5, 6, MOST}) Due.due("ask(" + cog + ", 0)", x.ask(cog, 0), BAD);
        for (int what : new int[] {LEAST, -1, 2, 3, MOST}) Due.due("ask(0, " + what + ")", x.ask(0, what), BAD);
        int[] stays = {13, 10, NONE};
        for (int i = 0; i < 3; i++) Due.due("trace(" + i + ") stays", x.trace(i), stays[i]);
        Due.due("ask(0, 0) without a BIKE", new GearRoad().ask(0, 0), BAD);
        Due.due("ask(0, 1) without a BIKE", new GearRoad().ask(0, 1), BAD);
        Due.says(33, "THE TRACE is empty ahead of it.");
        x.ask(1, 0);
        Due.due("six BODIES: trace(5)", x.trace(5), 20);
        Due.due("six BODIES: trace(6)", x.trace(6), NONE);
        x.ask(0, 1);
        int[] two = {21, 20, NONE, NONE, NONE, NONE, NONE};
        for (int i = 0; i < two.length; i++) Due.due("two BODIES: trace(" + i + ")", x.trace(i), two[i]);
    }

    private static void trace() {
        Due.says(34, "Number i of THE TRACE; NONE.");
        GearRoad x = Due.bike(FIVE);
        for (int i : new int[] {LEAST, -1, 0, 1, 15, 16, MOST}) {
            Due.due("trace(" + i + ") before an ASK", x.trace(i), NONE);
            Due.due("trace(" + i + ") without a BIKE", new GearRoad().trace(i), NONE);
        }
        x.ask(3, 0);
        int[] wants = {NONE, 13, 10, NONE, NONE};
        for (int i = -1; i <= 3; i++) Due.due("trace(" + i + ")", x.trace(i), wants[i + 1]);
        for (int i : new int[] {LEAST, 15, 16, MOST}) Due.due("trace(" + i + ")", x.trace(i), NONE);
    }

    private static void count() {
        Due.says(35, "How many: 0 ROWS, 1 COGS, 2 RINGS, 3 PIECES, 4 STRENGTH, 5 the GEAR as it is, 6 the PIECE at which one is, 7 TURNED, "
            + "8 ACTS that can be undone, 9 bytes on the tape.");
        GearRoad x = Due.bike(FIVE);
        x.row(0, 0, 0);
        x.row(7, 2, 40);
        x.ride();
        x.ride();
        x.front(1);
        x.shift(1);
        x.strength(88);
        for (int i = 0; i < 7; i++) x.feed('b');
        int[] wants = {2, 5, 2, 3, 88, 7, 2, 201 + 201 + 5 + 3, 5, 7};
        for (int i = 0; i < wants.length; i++) Due.due("count(" + i + ")", x.count(i), wants[i]);
        for (int row = 0; row <= 7; row++) x.row(row, 0, 0);
        Due.due("count(0) of all", x.count(0), 8);
        Due.says(35, "BAD.");
        for (int what : new int[] {LEAST, -1, 10, 11, MOST}) {
            Due.due("count(" + what + ")", x.count(what), BAD);
            Due.due("count(" + what + ") without a BIKE", new GearRoad().count(what), BAD);
        }
        for (int what = 0; what <= 9; what++) Due.due("count(" + what + ") at first", new GearRoad().count(what), 0);
    }
}
