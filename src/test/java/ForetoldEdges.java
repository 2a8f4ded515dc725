/** What is FORETOLD: part 3 of "Terms", promises 19 to 28. */
final class ForetoldEdges {
    private static final int NONE = GearRoad.NONE, BAD = GearRoad.BAD, STATE = GearRoad.STATE;
    private static final int NULL = -1000011, PLACE = -1000012;
    private static final int LEAST = Integer.MIN_VALUE, MOST = Integer.MAX_VALUE;
    /** GEARS 0, 1, 2, 6, 7, 8. */
    private static final String SIX_GEARS = "b99;k20;k40;p10;w20;o40;s0;s4;s9;";
    private static final int[] THERE = {0, 1, 2, 6, 7, 8};
    private static final int[] NOT_THERE = {LEAST, -6, -1, 3, 4, 5, 9, 10, 11, 12, 13, 14, 17, 18, MOST};

    private ForetoldEdges() {
    }

    static void all() {
        nothingChanges();
        costOf();
        costNone();
        planOf();
        planOfSeveral();
        planOfTheMost();
        planNone();
        leastOf();
        leastOfTheMost();
        rankOf();
        alikeOf();
        shareOf();
        shareOver();
        tellsTurns();
        sorts();
        toothed();
        strong();
        chanceOf();
        load();
        rounds();
        cost();
        plan();
        least();
        rank();
        share();
        fits();
        fitsRefused();
        chance();
    }

    private static void nothingChanges() {
        Due.says(0, "FORETOLD (nothing changes).");
        for (int call = 0; call < 10; call++) {
            GearRoad x = used();
            GearRoad twin = used();
            for (int what = 0; what <= 4; what++) foretell(call, what, x);
            Twins.same("FORETOLD " + call, x, twin);
        }
    }

    private static GearRoad used() {
        GearRoad x = Due.bike("b60;k20;k40;p40;f40;r20;s0;s4;s9;");
        x.image(0);
        x.ride();
        x.shift(1);
        x.front(1);
        x.row(0, 2, 3);
        x.ask(1, 1);
        x.feed('b');
        return x;
    }

    private static void foretell(int call, int what, GearRoad x) {
        switch (call) {
            case 0: x.load(2, what); break;
            case 1: x.rounds(what); break;
            case 2: x.cost(what % 3, 8); break;
            case 3: x.plan(what - 1); break;
            case 4: x.least(); break;
            case 5: x.rank(2, what % 2); break;
            case 6: x.share(1, what * 200); break;
            case 7: x.fits(0, 0, 3, what); break;
            case 8: x.chance(what, what % 2); break;
            default: x.drawn(60, what + 1, what % 2);
        }
    }

    private static void costOf() {
        Due.says(0, "COST of SHIFTS from a GEAR to another one at this PIECE: the fewest TURNS for it;");
        // Onto COGS 0 to 5: 3, 1, 3, 3, 1, 3.
        GearRoad x = Due.bike("b99;k20;k30;k40;p10;r20;w20;o30;r40;f40;s0;s0;");
        int[] up = {0, 1, 4, 7, 8, 11};
        int[] down = {11, 8, 7, 4, 1, 0};
        for (int cog = 0; cog < 6; cog++) {
            Due.due("cost(0, " + cog + ")", x.cost(0, cog), up[cog]);
            Due.due("cost(5, " + cog + ")", x.cost(5, cog), down[cog]);
            Due.due("RINGS, too, 1", x.cost(0, 6 + cog), up[cog] + 5);
            Due.due("RINGS, too, 2", x.cost(0, 12 + cog), up[cog] + 10);
            Due.due("RINGS down", x.cost(17, cog), down[cog] + 10);
        }
        Due.due("the RING alone", x.cost(3, 15), 10);
        x.ride();
        Due.due("from the fixed one at PIECE 1", x.cost(5, 4), NONE);
        Due.due("onto it at PIECE 1", x.cost(4, 5), 3);
        x.ride();
        Due.due("from the fixed one at THE END, 2", x.cost(5, 4), 1);
        Due.due("the GEAR as it is does not matter", x.cost(17, 12), 11);
    }

    private static void costNone() {
        Due.says(0, "NONE (by a fixed COG that may not be left);");
        GearRoad x = Due.bike("b99;k20;k30;p40;f40;p40;s0;s0;s0;");
        int[][] ways = {{0, 2}, {2, 0}, {1, 0}, {1, 2}, {6, 2}, {1, 6}, {0, 1}, {2, 1}, {1, 7}, {0, 7}};
        int[] free = {6, 6, 3, 3, 11, 8, 3, 3, 5, 8};
        int[] bound = {NONE, NONE, NONE, NONE, NONE, NONE, 3, 3, 5, 8};
        for (int piece = 0; piece <= 3; piece++) {
            for (int i = 0; i < ways.length; i++) {
                Due.due("cost(" + ways[i][0] + ", " + ways[i][1] + ") at " + piece, x.cost(ways[i][0], ways[i][1]),
                    piece % 2 == 0 ? free[i] : bound[i]);
            }
            x.ride();
        }
        Due.says(0, "0 for itself.");
        for (int gear : new int[] {0, 1, 2, 6, 7, 8}) Due.due("cost(" + gear + ", " + gear + ") at 3", x.cost(gear, gear), 0);
        x.about();
        for (int gear : new int[] {0, 1, 2, 6, 7, 8}) Due.due("cost(" + gear + ", " + gear + ") at 0", x.cost(gear, gear), 0);
    }

    private static void duePlan(String what, GearRoad x, int turns, int... gears) {
        Due.due(what + ": plan(-1)", x.plan(-1), turns);
        for (int k = 0; k < gears.length; k++) Due.due(what + ": plan(" + k + ")", x.plan(k), gears[k]);
        Due.due(what + ": plan(" + gears.length + ")", x.plan(gears.length), NONE);
    }

    private static void planOf() {
        Due.says(0, "PLAN: of all ways to ride on to THE END from now on, with SHIFTS ahead of any PIECE, "
            + "that by which fewest TURNS are TURNED (SHIFTS, too),");
        // p10: 51, p11: 56 TURNS: a SHIFT of 3 is worth it for one PIECE; p11 and p12 of which one starts: 56, 61.
        GearRoad one = Due.bike("b99;k20;p11;p10;s0;");
        duePlan("3 less 5", one, 54, 1);
        GearRoad onRing = Due.bike("b99;k20;k21;p10;s0;");
        duePlan("5 more for 3 less", onRing, 51, 0);
        GearRoad onRings = Due.bike("b99;k20;k21;p10;s0;s0;s0;");
        // 3 times 51 is 153; 5 and 3 times 48 is 149.
        duePlan("5 more for 9 less", onRings, 149, 6, 6, 6);
        GearRoad even = Due.bike("b99;k20;k22;p10;s0;");
        // 51 is as good as 5 and 46.
        duePlan("as good as it is", even, 51, 0);
        // The last PIECE bears p40 alone (50; p20 has 100): 3 ahead of it.
        GearRoad late = Due.bike("b99;k20;p20;p40;s0;s9;");
        duePlan("a SHIFT ahead of the last", late, 101 + 3 + 201, 0, 1);
        late.ride();
        duePlan("from there on", late, 3 + 201, 1);
        late.shift(1);
        duePlan("behind the SHIFT", late, 201, 1);
        late.ride();
        duePlan("at THE END", late, 0);
        late.about();
        // From p40: SLOPES are 0, 9 again.
        duePlan("the other way", late, 3 + 101 + 3 + 201, 0, 1);
    }

    private static void planOfSeveral() {
        Due.says(0, "of several that with the first GEARS (by numbers, PIECE by PIECE): how many; the GEAR of the k-th PIECE from now on; NONE.");
        GearRoad sides = Due.bike("b99;k20;r10;p11;r10;s0;s0;");
        sides.shift(1);
        duePlan("down or up", sides, 1 + 51 + 51, 0, 0);
        // The last PIECE bears o40 (90) alone; p40 and o40 take as many TURNS, so that one may shift anywhere.
        GearRoad up = Due.bike("b90;k40;p40;o40;s0;s0;s9;");
        duePlan("as late as can be", up, 3 * 101 + 3, 0, 0, 1);
        GearRoad down = Due.bike("b90;k40;o40;p40;s0;s0;s9;");
        down.shift(1);
        duePlan("as early as can be", down, 3 * 101 + 3, 0, 0, 0);
        // GEARS 1 (3, 51) and 6 (5, 49) are as good, both better than 0 (61); 7 is not borne.
        GearRoad either = Due.bike("b20;k20;k25;p12;p10;s0;");
        duePlan("a COG or a RING", either, 54, 1);
        GearRoad same = Due.bike("b99;k20;k20;p20;p20;s0;");
        same.front(1);
        same.shift(1);
        duePlan("as one is", same, 101, 7);
        // RING 2 or RING 0 from RING 1, alike: GEAR 0 ahead of GEAR 12.
        GearRoad beside = Due.bike("b99;k60;k20;k60;p10;s0;");
        beside.front(1);
        duePlan("a RING down or up", beside, 5 + 17, 0);
    }

    /** As many RINGS, COGS, PIECES as there can be; then a smaller BIKE, of which nothing larger may be left. */
    private static void planOfTheMost() {
        GearRoad x = Due.bike("b99;k20;k40;k60;p10;p10;p10;p10;p10;p10;s0;s0;s0;s0;s0;s0;");
        duePlan("all six", x, 10 + 6 * 17, 12, 12, 12, 12, 12, 12);
        for (int cog = 1; cog <= 5; cog++) x.shift(1);
        duePlan("from COG 5", x, 10 + 6 * 17, 17, 17, 17, 17, 17, 17);
        Due.read(x, "b99;k20;f40;p10;s0;s0;");
        duePlan("a smaller one", x, 3 + 51 + 51, 1, 1);
        x.ride();
        duePlan("on a fixed COG", x, 201, 0);
        x.ride();
        duePlan("at THE END of the smaller one", x, 0);
    }

    private static void planNone() {
        Due.says(22, "PLAN: how many (k = -1), the GEAR of the k-th (0 on; NONE: not so many); NONE: none.");
        // p20 on SLOPES 0, 1: 10, 20.
        GearRoad x = Due.bike("b20;k20;p20;s0;s1;");
        duePlan("20", x, 202, 0, 0);
        x.strength(19);
        Due.due("19: plan(-1)", x.plan(-1), NONE);
        for (int k = 0; k <= 3; k++) Due.due("19: plan(" + k + ")", x.plan(k), NONE);
        x.strength(21);
        duePlan("21", x, 202, 0, 0);
        for (int k : new int[] {2, 3, 6, MOST}) Due.due("plan(" + k + ")", x.plan(k), NONE);
        x.ride();
        x.strength(19);
        Due.due("one PIECE left: plan(-1)", x.plan(-1), NONE);
        x.strength(20);
        duePlan("one PIECE left", x, 101, 0);
        x.ride();
        x.strength(1);
        duePlan("none left", x, 0);
        // At PIECE 1 a fixed COG has to do.
        GearRoad fixed = Due.bike("b89;k20;f20;p40;s0;s9;");
        duePlan("left ahead of PIECE 0", fixed, 3 + 201 + 201, 1, 1);
        fixed.ride();
        Due.due("too late: plan(-1)", fixed.plan(-1), NONE);
        fixed.strength(90);
        duePlan("it does", fixed, 101, 0);
    }

    private static void leastOf() {
        Due.says(0, "LEAST: the least STRENGTH (1 to 99) by which there is such a way; NONE.");
        String[] texts = {"b1;k33;p10;s2;", "b1;k49;p10;s1;", "b1;k20;p20;s9;", "b1;k20;o40;s0;", "b1;k20;o20;s9;"};
        int[] wants = {99, 98, NONE, 5, 90};
        for (int i = 0; i < texts.length; i++) Due.due("least() of " + texts[i], Due.bike(texts[i]).least(), wants[i]);
        GearRoad x = Due.bike("b1;k20;k30;f20;p40;s0;s9;s3;");
        int least = x.least();
        Due.due("least()", least, 50);
        x.strength(least - 1);
        Due.due("one below: plan(-1)", x.plan(-1), NONE);
        x.strength(least);
        Due.due("as much: plan(-1)", x.plan(-1) > 0);
        x.ride();
        Due.due("on a fixed COG at 1", x.least(), 90);
        x.strength(90);
        x.ride();
        Due.due("at 2", x.least(), 20);
        x.ride();
        Due.due("at THE END", x.least(), 1);
    }

    private static void leastOfTheMost() {
        GearRoad x = Due.bike("b1;k20;k40;k60;p10;p10;p10;p10;p10;p20;s0;s1;s2;s3;s4;s5;");
        Due.due("least() of all six", x.least(), 60);
        x.slope(5, 9);
        Due.due("least() of all six, steeper", x.least(), NONE);
        x.slope(5, 8);
        Due.due("least() of all six, as steep as can be", x.least(), 90);
        Due.read(x, "b99;k20;f20;p40;s0;s9;s0;");
        Due.due("least() of a smaller one", x.least(), 50);
        x.ride();
        Due.due("least() on a fixed COG", x.least(), 90);
        GearRoad fixed = Due.bike("b99;k20;f20;p40;s0;s9;s0;");
        fixed.ride();
        Due.due("least() on a fixed COG, first of all", fixed.least(), 90);
    }

    private static void rankOf() {
        Due.says(0, "RANK of a GEAR: how many GEARS have less TEETH of the RING by TEETH of the COG (exactly);");
        // 59 by 39 is 1.5128, 59 by 40 is 1.475, 60 by 39 is 1.538, 60 by 40 is 1.5: all 1 if they were cut.
        GearRoad near = Due.bike("b99;k59;k60;p39;p40;s0;");
        int[] gears = {0, 1, 6, 7};
        int[] ranks = {2, 0, 3, 1};
        for (int i = 0; i < 4; i++) Due.due("rank(" + gears[i] + ", 0)", near.rank(gears[i], 0), ranks[i]);
        // 1, 2, 2, 4: as much is not less.
        GearRoad x = Due.bike("b99;k20;k40;p20;f10;s0;");
        int[] ofTwo = {0, 1, 1, 3};
        for (int i = 0; i < 4; i++) Due.due("rank(" + gears[i] + ", 0) of 1, 2, 2, 4", x.rank(gears[i], 0), ofTwo[i]);
        Due.due("of one GEAR", Due.bike("b99;k20;p20;s0;").rank(0, 0), 0);
        GearRoad all = Due.bike("b99;k20;k40;k60;p10;p11;p12;p13;p14;p40;s0;");
        Due.due("the least of 18", all.rank(5, 0), 0);
        Due.due("the most of 18", all.rank(12, 0), 17);
    }

    private static void alikeOf() {
        Due.says(0, "ALIKE: how many others have as much.");
        GearRoad x = Due.bike("b99;k20;k40;p20;f10;s0;");
        int[] gears = {0, 1, 6, 7};
        int[] alike = {0, 1, 1, 0};
        for (int i = 0; i < 4; i++) Due.due("rank(" + gears[i] + ", 1)", x.rank(gears[i], 1), alike[i]);
        Due.due("none but itself", Due.bike("b99;k20;p20;s0;").rank(0, 1), 0);
        GearRoad all = Due.bike("b99;k30;k30;k30;p15;w15;r15;o15;f15;p15;s0;");
        for (int gear : new int[] {0, 9, 17}) {
            Due.due("all others", all.rank(gear, 1), 17);
            Due.due("none has less", all.rank(gear, 0), 0);
        }
        Due.due("near, but not as much", Due.bike("b99;k59;k60;p39;p40;s0;").rank(7, 1), 0);
    }

    private static void dueShares(String what, GearRoad x, int n, int... wants) {
        for (int cog = 0; cog < wants.length; cog++) Due.due(what + ": share(" + cog + ", " + n + ")", x.share(cog, n), wants[cog]);
    }

    private static void shareOf() {
        Due.says(0, "SHARE of a COG, n in all (0 to 999): n times what was TURNED on it, by what was on all COGS (cut),");
        GearRoad x = Due.bike("b99;k20;k30;p20;r20;p20;s0;");
        x.front(1);
        x.shift(1);
        x.shift(1);
        // On 1: 1; on 2: 3; the RING's 5 on none.
        dueShares("1 and 3", x, 4, 0, 1, 3);
        dueShares("1 and 3", x, 8, 0, 2, 6);
        dueShares("1 and 3", x, 996, 0, 249, 747);
        dueShares("1 and 3", x, 0, 0, 0, 0);
        // n at its ends: 3 over 4 of 999 is 749.25, 1 over 4 is 249.75.
        dueShares("1 and 3", x, 999, 0, 250, 749);
        dueShares("1 and 3", x, 998, 0, 250, 748);
        Due.due("share(1, 1000)", x.share(1, 1000), BAD);
        Due.due("share(1, -1)", x.share(1, -1), BAD);
    }

    private static void shareOver() {
        Due.says(0, "what is over 1 each to the first of these on which anything was; 0, if nothing was on it.");
        GearRoad x = Due.bike("b99;k20;p20;p21;p22;p23;p24;s0;");
        dueShares("nothing at all", x, 999, 0, 0, 0, 0, 0);
        x.shift(1);
        dueShares("one alone", x, 0, 0, 0, 0, 0, 0);
        dueShares("one alone", x, 1, 0, 1, 0, 0, 0);
        dueShares("one alone", x, 999, 0, 999, 0, 0, 0);
        x.shift(1);
        x.shift(1);
        // 3 on each of 1, 2, 3: what is over 3 goes to the first of them, not to COG 0.
        dueShares("three alike", x, 3, 0, 1, 1, 1, 0);
        dueShares("three alike", x, 4, 0, 2, 1, 1, 0);
        dueShares("three alike", x, 5, 0, 2, 2, 1, 0);
        dueShares("three alike", x, 6, 0, 2, 2, 2, 0);
        dueShares("three alike", x, 1, 0, 1, 0, 0, 0);
        dueShares("three alike", x, 2, 0, 1, 1, 0, 0);
        x.shift(-1);
        // 3, 6, 3: of 5 they are 1.25, 2.5, 1.25, cut 1, 2, 1.
        dueShares("one twice", x, 5, 0, 2, 2, 1, 0);
        // Of 7: 1.75, 3.5, 1.75, cut 1, 3, 1: 2 over.
        dueShares("one twice", x, 7, 0, 2, 4, 1, 0);
        for (int n = 0; n < 4; n++) x.undo();
        dueShares("undone", x, 999, 0, 0, 0, 0, 0);
        GearRoad single = Due.bike("b99;k20;p20;r20;s0;");
        single.shift(1);
        dueShares("a single TURN", single, 999, 0, 999);
        GearRoad six = Due.bike("b99;k20;p20;p21;p22;p23;p24;r25;s0;");
        for (int cog = 1; cog <= 5; cog++) six.shift(1);
        six.shift(-1);
        // 0, 3, 3, 3, 6, 1: of 16 as many; of 15: 2.8, 5.6, 0.9, cut 2, 2, 2, 5, 0: 4 over.
        dueShares("of six", six, 16, 0, 3, 3, 3, 6, 1);
        dueShares("of six", six, 15, 0, 3, 3, 3, 6, 0);
    }

    private static GearRoad withRow(String text, int... items) {
        GearRoad x = Due.bike(text);
        x.row(0, 2, items.length);
        for (int i = 0; i < items.length; i++) x.set(0, i, items[i]);
        return x;
    }

    private static void dueFits(String what, GearRoad x, int i, int n, int... wants) {
        for (int w = 0; w < 5; w++) Due.due(what + ": fits(0, " + i + ", " + n + ", " + w + ")", x.fits(0, i, n, w), wants[w]);
    }

    private static void tellsTurns() {
        Due.says(0, "A row tells TURNS of each of the next n PIECES (1 to 6), ridden in the GEAR as it is; "
            + "of one that does not BEAR it, and beyond THE END, 0 (one goes on to the next then).");
        // LOADS of p20 are 10 times the PIECE's number and 1: with 30 the first three are ridden.
        GearRoad x = withRow("b30;k20;p20;s0;s1;s2;s3;s0;s9;", 101, 101, 101, 0, 101, 0, 0, 0);
        for (int n = 1; n <= 6; n++) Due.due("strengths by " + n, x.fits(0, 0, n, 3), new int[] {90, 80, 70, 10, 10, 10}[n - 1]);
        for (int n = 1; n <= 6; n++) Due.due("the least by " + n, x.fits(0, 0, n, 4), new int[] {10, 20, 30, 30, 30, 30}[n - 1]);
        Due.due("n 0", x.fits(0, 0, 0, 3), BAD);
        Due.due("n 7", x.fits(0, 0, 7, 3), BAD);
        x.ride();
        Due.due("from PIECE 1 on", x.fits(0, 1, 5, 3), 10);
        Due.due("from PIECE 1 on, and one beyond THE END", x.fits(0, 1, 6, 3), 10);
        Due.due("from PIECE 1 on, but not so", x.fits(0, 0, 5, 3), 0);
        x.set(0, 6, 101);
        Due.due("101 beyond THE END", x.fits(0, 1, 6, 3), 0);
        Due.due("where one is", x.count(6), 1);
        GearRoad end = withRow("b30;k20;p20;s0;", 0, 0, 0, 0, 0, 0, 101);
        end.ride();
        Due.due("all beyond THE END", end.fits(0, 0, 6, 3), 99);
        Due.due("all beyond THE END, but one", end.fits(0, 1, 6, 3), 0);
        // Another GEAR: RING 1, COG 1.
        GearRoad other = withRow("b99;k20;k40;p20;w20;s0;", 101, 51, 63);
        Due.due("GEAR 0", other.fits(0, 0, 1, 3) > 0 && other.fits(0, 1, 1, 3) == 0);
        other.front(1);
        Due.due("GEAR 6", other.fits(0, 1, 1, 3) > 0 && other.fits(0, 0, 1, 3) == 0);
        other.shift(1);
        Due.due("GEAR 7", other.fits(0, 2, 1, 3) > 0 && other.fits(0, 1, 1, 3) == 0);
    }

    private static void sorts() {
        Due.says(0, "SORTS: KINDS (bits 1 to 5) of the COG by which it is so;");
        // p20 on SLOPE 0: 10, oval and fixed 9; 101, worn 126.
        GearRoad x = withRow("b10;k20;p20;s0;", 101, 126, 0, 100, 102);
        int[] wants = {2 + 8 + 16 + 32, 4, 0, 0, 0};
        for (int i = 0; i < 5; i++) Due.due("by 10, item " + i, x.fits(0, i, 1, 0), wants[i]);
        x.strength(9);
        int[] nine = {16 + 32, 0, 2 + 4 + 8, 0, 0};
        for (int i = 0; i < 5; i++) Due.due("by 9, item " + i, x.fits(0, i, 1, 0), nine[i]);
        x.strength(8);
        int[] eight = {0, 0, 2 + 4 + 8 + 16 + 32, 0, 0};
        for (int i = 0; i < 5; i++) Due.due("by 8, item " + i, x.fits(0, i, 1, 0), eight[i]);
        // Whichever the COG itself is.
        for (String sort : new String[] {"w", "r", "o", "f"}) {
            GearRoad other = withRow("b9;k20;" + sort + "20;s0;", 101);
            Due.due("of a COG " + sort, other.fits(0, 0, 1, 0), 16 + 32);
        }
    }

    private static void toothed() {
        Due.says(0, "TOOTHED: TEETH of the COG (10 to 40): how many; the least; NONE;");
        // 5 times TEETH, and 1: 9 to 41 are 46, 51, 56 .. 196, 201, 206.
        GearRoad x = withRow("b99;k20;p25;s0;", 46, 51, 56, 196, 201, 206, 0);
        int[] many = {0, 1, 1, 1, 1, 0, 0};
        int[] least = {NONE, 10, 11, 39, 40, NONE, NONE};
        for (int i = 0; i < 7; i++) {
            Due.due("how many, item " + i, x.fits(0, i, 1, 1), many[i]);
            Due.due("the least, item " + i, x.fits(0, i, 1, 2), least[i]);
        }
        // 200 by TEETH is 10 or less from 19 on (10.5, cut), so that 10 to 18 are not borne; it is 5 from 34 on (5.8, cut).
        x.strength(10);
        Due.due("not borne by 10", x.fits(0, 6, 1, 1), 9);
        Due.due("the least not borne by 10", x.fits(0, 6, 1, 2), 10);
        x.strength(5);
        Due.due("not borne by 5", x.fits(0, 6, 1, 1), 24);
        x.strength(4);
        Due.due("not borne by 4", x.fits(0, 6, 1, 1), 31);
        // On k60: 100 times 20, 21 by 60 are 33.3, 35: each its own; with a worn COG 34 and 8 more.
        GearRoad worn = withRow("b99;k60;w11;s0;", 42, 34);
        Due.due("by its own KIND", worn.fits(0, 0, 1, 2), 20);
        Due.due("not by another", worn.fits(0, 1, 1, 2), NONE);
    }

    private static void strong() {
        Due.says(0, "STRONG: STRENGTH (1 to 99): how many; the least; NONE.");
        // k33 and p10 on SLOPE 2: 99, 31 TURNS; k20 and p20 on SLOPE 9: 100, 101 TURNS; k49 and p10 on SLOPE 1: 98, 21 TURNS.
        String[] texts = {"b1;k49;p10;s1;", "b1;k33;p10;s2;", "b1;k20;p20;s9;"};
        int[] turns = {21, 31, 101};
        int[] many = {2, 1, 0};
        int[] least = {98, 99, NONE};
        for (int i = 0; i < 3; i++) {
            GearRoad x = withRow(texts[i], turns[i], 0, turns[i] + 1);
            Due.due("how many bear " + texts[i], x.fits(0, 0, 1, 3), many[i]);
            Due.due("the least that bears " + texts[i], x.fits(0, 0, 1, 4), least[i]);
            Due.due("how many do not bear " + texts[i], x.fits(0, 1, 1, 3), 99 - many[i]);
            Due.due("the least that does not bear " + texts[i], x.fits(0, 1, 1, 4), 1);
            Due.due("how many tell another", x.fits(0, 2, 1, 3), 0);
            Due.due("the least that tells another", x.fits(0, 2, 1, 4), NONE);
        }
    }

    private static void dueChance(String what, GearRoad x, int c, int above, int below) {
        Due.due(what + ": chance(" + c + ", 0)", x.chance(c, 0), above);
        Due.due(what + ": chance(" + c + ", 1)", x.chance(c, 1), below);
    }

    private static void chanceOf() {
        Due.says(0, "CHANCE: each PIECE from now on is 3 steeper (9 at most) by c of 10, each by itself: that all of these BEAR the GEAR as it is: a fraction.");
        // p40: 5 times (SLOPE and 1). Each SLOPE with 3 more: 20 for 0, 45 for 5, 50 for 6, 7, 8, 9.
        int[] needs = {20, 25, 30, 35, 40, 45, 50, 50, 50, 50};
        for (int slope = 0; slope <= 9; slope++) {
            GearRoad x = Due.bike("b99;k20;p40;s" + slope + ";");
            x.strength(needs[slope]);
            dueChance("SLOPE " + slope + ", enough", x, 10, 1, 1);
            x.strength(needs[slope] - 1);
            dueChance("SLOPE " + slope + ", 1 less", x, 10, 0, 1);
            boolean asItIs = 5 * (slope + 1) <= needs[slope] - 1;
            dueChance("SLOPE " + slope + ", 1 less, never steeper", x, 0, asItIs ? 1 : 0, 1);
            dueChance("SLOPE " + slope + ", 1 less, seldom steeper", x, 1, asItIs ? 9 : 0, asItIs ? 10 : 1);
        }
        GearRoad three = Due.bike("b45;k20;p40;s6;s6;s6;");
        dueChance("three", three, 1, 729, 1000);
        three.ride();
        dueChance("two", three, 1, 81, 100);
        three.ride();
        dueChance("one", three, 1, 9, 10);
        three.ride();
        dueChance("none", three, 1, 1, 1);
        dueChance("none, always steeper", three, 10, 1, 1);
        GearRoad passed = Due.bike("b99;k20;p40;s9;s0;");
        passed.ride();
        passed.strength(20);
        dueChance("what is ridden does not count", passed, 10, 1, 1);
    }

    private static void load() {
        Due.says(19, "LOAD of a GEAR on a SLOPE (0 to 9).");
        GearRoad x = Due.bike(SIX_GEARS);
        int[] flat = {20, 10, 5, 40, 20, 9};
        int[] steep = {200, 100, 45, 400, 200, 90};
        for (int i = 0; i < 6; i++) {
            Due.due("load(" + THERE[i] + ", 0)", x.load(THERE[i], 0), flat[i]);
            Due.due("load(" + THERE[i] + ", 9)", x.load(THERE[i], 9), steep[i]);
        }
        for (int slope = 0; slope <= 9; slope++) Due.due("load(0, " + slope + ")", x.load(0, slope), 20 * (slope + 1));
        Due.says(19, "BAD.");
        for (int slope : new int[] {LEAST, -1, 10, 11, MOST}) Due.due("load(0, " + slope + ")", x.load(0, slope), BAD);
        for (int gear : NOT_THERE) Due.due("load(" + gear + ", 0)", x.load(gear, 0), BAD);
        Due.due("load(0, 0) without a BIKE", new GearRoad().load(0, 0), BAD);
    }

    private static void rounds() {
        Due.says(20, "TURNS of a GEAR.");
        GearRoad x = Due.bike(SIX_GEARS);
        int[] turns = {51, 126, 201, 26, 63, 101};
        for (int i = 0; i < 6; i++) Due.due("rounds(" + THERE[i] + ")", x.rounds(THERE[i]), turns[i]);
        Due.says(20, "BAD.");
        for (int gear : NOT_THERE) Due.due("rounds(" + gear + ")", x.rounds(gear), BAD);
        Due.due("rounds(0) without a BIKE", new GearRoad().rounds(0), BAD);
    }

    private static void cost() {
        Due.says(21, "COST; NONE. BAD.");
        GearRoad x = Due.bike(SIX_GEARS);
        Due.due("cost(0, 8)", x.cost(0, 8), 11);
        for (int gear : NOT_THERE) {
            Due.due("cost(" + gear + ", 0)", x.cost(gear, 0), BAD);
            Due.due("cost(0, " + gear + ")", x.cost(0, gear), BAD);
            Due.due("cost(" + gear + ", " + gear + ")", x.cost(gear, gear), BAD);
        }
        GearRoad fixed = Due.bike("b99;k20;f40;p40;s0;s0;");
        fixed.ride();
        Due.due("NONE", fixed.cost(0, 1), NONE);
        Due.due("BAD ahead of NONE", fixed.cost(0, 2), BAD);
        Due.due("cost(0, 0) without a BIKE", new GearRoad().cost(0, 0), BAD);
    }

    private static void plan() {
        Due.says(22, "BAD: k below -1; STATE: no BIKE (ahead of BAD).");
        GearRoad x = Due.bike("b99;k20;p20;s0;");
        for (int k : new int[] {-2, -3, LEAST}) {
            Due.due("plan(" + k + ")", x.plan(k), BAD);
            Due.due("plan(" + k + ") without a BIKE", new GearRoad().plan(k), STATE);
        }
        for (int k : new int[] {-1, 0, 1, MOST}) Due.due("plan(" + k + ") without a BIKE", new GearRoad().plan(k), STATE);
        Due.due("plan(-1)", x.plan(-1), 101);
        Due.due("plan(0)", x.plan(0), 0);
        x.strength(1);
        Due.due("BAD where there is none", x.plan(-2), BAD);
    }

    private static void least() {
        Due.says(23, "LEAST; NONE. STATE: no BIKE.");
        Due.due("least()", Due.bike("b1;k33;p10;s2;").least(), 99);
        Due.due("least() of none", Due.bike("b99;k20;p20;s9;").least(), NONE);
        Due.due("least() without a BIKE", new GearRoad().least(), STATE);
        GearRoad x = Due.bike("b7;k20;p20;s2;");
        Due.due("least() of 30", x.least(), 30);
        Due.due("STRENGTH stays", x.count(4), 7);
    }

    private static void rank() {
        Due.says(24, "RANK (what = 0), ALIKE (1). BAD.");
        GearRoad x = Due.bike(SIX_GEARS);
        // 2, 1, 0.5, 4, 2, 1.
        int[] ranks = {3, 1, 0, 5, 3, 1};
        int[] alike = {1, 1, 0, 0, 1, 1};
        for (int i = 0; i < 6; i++) {
            Due.due("rank(" + THERE[i] + ", 0)", x.rank(THERE[i], 0), ranks[i]);
            Due.due("rank(" + THERE[i] + ", 1)", x.rank(THERE[i], 1), alike[i]);
        }
        for (int gear : NOT_THERE) Due.due("rank(" + gear + ", 0)", x.rank(gear, 0), BAD);
        for (int gear : NOT_THERE) Due.due("rank(" + gear + ", 1)", x.rank(gear, 1), BAD);
        for (int what : new int[] {LEAST, -1, 2, 3, MOST}) Due.due("rank(0, " + what + ")", x.rank(0, what), BAD);
        Due.due("rank(0, 0) without a BIKE", new GearRoad().rank(0, 0), BAD);
    }

    private static void share() {
        Due.says(25, "SHARE. BAD.");
        GearRoad x = Due.bike(SIX_GEARS);
        x.ride();
        for (int n : new int[] {0, 1, 998, 999}) Due.due("share(0, " + n + ")", x.share(0, n), n);
        for (int n : new int[] {LEAST, -1, 1000, 1001, MOST}) {
            Due.due("share(0, " + n + ")", x.share(0, n), BAD);
            Due.due("share(1, " + n + ")", x.share(1, n), BAD);
        }
        for (int cog : new int[] {LEAST, -1, 3, 5, 6, MOST}) Due.due("share(" + cog + ", 0)", x.share(cog, 0), BAD);
        Due.due("share(2, 999)", x.share(2, 999), 0);
        Due.due("share(0, 0) without a BIKE", new GearRoad().share(0, 0), BAD);
        GearRoad untouched = Due.bike(SIX_GEARS);
        Due.due("BAD where nothing was", untouched.share(0, 1000), BAD);
    }

    private static void fits() {
        Due.says(26, "SORTS (what = 0), TOOTHED: how many (1), the least (2; NONE), STRONG: how many (3), the least (4; NONE), by TURNS, n ITEMS of a ROW from i on.");
        GearRoad x = withRow("b99;k20;p20;s0;s0;s0;s0;s0;s0;", 0, 101, 101, 101, 101, 101, 101, 0);
        for (int n = 1; n <= 6; n++) dueFits("so", x, 1, n, 2 + 8 + 16 + 32, 1, 20, 90, 10);
        dueFits("the first is not so", x, 0, 2, 0, 0, NONE, 0, NONE);
        dueFits("the last is not so", x, 2, 6, 0, 0, NONE, 0, NONE);
        dueFits("without the last", x, 2, 5, 2 + 8 + 16 + 32, 1, 20, 90, 10);
        dueFits("none", x, 0, 1, 0, 0, NONE, 9, 1);
        // Lanes: what a byte and a short have kept is told.
        GearRoad lanes = Due.bike("b99;k20;p20;p40;s0;");
        lanes.row(0, 0, 1);
        lanes.set(0, 0, 256 + 101);
        dueFits("a byte", lanes, 0, 1, 2 + 8 + 16 + 32, 1, 20, 90, 10);
        lanes.shift(1);
        lanes.set(0, 0, 201);
        dueFits("a byte that has not kept 201", lanes, 0, 1, 0, 0, NONE, 0, NONE);
        lanes.row(0, 1, 1);
        lanes.set(0, 0, 65536 + 201);
        dueFits("a short", lanes, 0, 1, 2 + 8 + 16 + 32, 1, 40, 95, 5);
    }

    private static void fitsRefused() {
        Due.says(26, "BAD: ROW, n, what; STATE: no BIKE; NULL; PLACE.");
        GearRoad x = withRow("b99;k20;p20;s0;", 101, 0, 0, 0, 0, 0, 0);
        for (int row : new int[] {LEAST, -1, 8, MOST}) Due.due("fits(" + row + ", 0, 1, 0)", x.fits(row, 0, 1, 0), BAD);
        for (int n : new int[] {LEAST, -1, 0, 7, 8, MOST}) Due.due("fits(0, 0, " + n + ", 0)", x.fits(0, 0, n, 0), BAD);
        for (int what : new int[] {LEAST, -1, 5, 6, MOST}) Due.due("fits(0, 0, 1, " + what + ")", x.fits(0, 0, 1, what), BAD);
        int[] heavy = {0, 0, NONE, 9, 1};
        for (int what = 0; what <= 4; what++) {
            Due.due("fits(0, 1, 6, " + what + ")", x.fits(0, 1, 6, what), heavy[what]);
            Due.due("fits(0, 2, 6, " + what + ")", x.fits(0, 2, 6, what), PLACE);
            Due.due("fits(0, 6, 1, " + what + ")", x.fits(0, 6, 1, what), heavy[what]);
            Due.due("fits(0, 7, 1, " + what + ")", x.fits(0, 7, 1, what), PLACE);
            Due.due("fits(0, -1, 1, " + what + ")", x.fits(0, -1, 1, what), PLACE);
            Due.due("fits(0, -1, 6, " + what + ")", x.fits(0, -1, 6, what), PLACE);
            Due.due("fits(1, 0, 1, " + what + ")", x.fits(1, 0, 1, what), NULL);
        }
        for (int i : new int[] {LEAST, 8, MOST, MOST - 5}) Due.due("fits(0, " + i + ", 6, 0)", x.fits(0, i, 6, 0), PLACE);
        Due.due("NULL ahead of PLACE", x.fits(7, -1, 1, 0), NULL);
        Due.due("BAD ahead of NULL", x.fits(7, 0, 7, 0), BAD);
        Due.due("BAD ahead of PLACE", x.fits(0, -1, 1, 5), BAD);
        x.row(2, 0, 0);
        Due.due("of an empty one", x.fits(2, 0, 1, 0), PLACE);
        GearRoad none = new GearRoad();
        none.row(0, 0, 1);
        Due.due("BAD ROW ahead of STATE", none.fits(8, 0, 1, 0), BAD);
        Due.due("BAD n ahead of STATE", none.fits(0, 0, 0, 0), BAD);
        Due.due("BAD what ahead of STATE", none.fits(0, 0, 1, 5), BAD);
        Due.due("STATE", none.fits(0, 0, 1, 0), STATE);
        Due.due("STATE ahead of NULL", none.fits(1, 0, 1, 0), STATE);
        Due.due("STATE ahead of PLACE", none.fits(0, -1, 1, 0), STATE);
    }

    private static void chance() {
        Due.says(27, "CHANCE (c 0 to 10): above (what = 0), below (1).");
        // p20: 70 for SLOPE 6, 100 if it is steeper.
        GearRoad x = Due.bike("b99;k20;p20;s6;");
        int[][] wants = {{1, 1}, {9, 10}, {4, 5}, {7, 10}, {3, 5}, {1, 2}, {2, 5}, {3, 10}, {1, 5}, {1, 10}, {0, 1}};
        for (int c = 0; c <= 10; c++) dueChance("one PIECE", x, c, wants[c][0], wants[c][1]);
        Due.says(27, "BAD; STATE: no BIKE (ahead of BAD).");
        for (int c : new int[] {LEAST, -1, 11, 12, MOST}) {
            for (int what = 0; what <= 1; what++) Due.due("chance(" + c + ", " + what + ")", x.chance(c, what), BAD);
            Due.due("chance(" + c + ", 0) without a BIKE", new GearRoad().chance(c, 0), STATE);
        }
        for (int what : new int[] {LEAST, -1, 2, 3, MOST}) {
            Due.due("chance(0, " + what + ")", x.chance(0, what), BAD);
            Due.due("chance(0, " + what + ") without a BIKE", new GearRoad().chance(0, what), STATE);
        }
        Due.due("chance(0, 0) without a BIKE", new GearRoad().chance(0, 0), STATE);
    }
}
