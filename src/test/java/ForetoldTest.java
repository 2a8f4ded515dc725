/** Promises 19 to 28: load, rounds, cost, plan, least, rank, share, fits, chance, drawn. */
public final class ForetoldTest {
    private static final int BAD = GearRoad.BAD, STATE = GearRoad.STATE, NONE = GearRoad.NONE;
    private static final String FIVE = "b40;k30;k44;p12;w16;r20;o28;f32;s1;s4;s0;s7;";

    public static void main(String[] args) {
        loadAndRounds();
        cost();
        costByAFixedCog();
        plan();
        planOfSeveral();
        planAround();
        least();
        rank();
        share();
        fits();
        fitsBeyondTheEnd();
        fitsRefusals();
        chance();
        drawn();
        drawnChangesNothing();
        Due.end();
    }

    private static void loadAndRounds() {
        GearRoad x = Due.bike(FIVE);
        int[] gears = {0, 1, 2, 3, 4, 6, 7, 8, 9, 10};
        int[] flat = {25, 18, 15, 9, 9, 36, 27, 22, 14, 12};
        int[] steep = {250, 187, 150, 97, 84, 366, 275, 220, 142, 124};
        int[] turns = {41, 67, 67, 94, 107, 28, 46, 46, 64, 73};
        for (int i = 0; i < gears.length; i++) {
            Due.due("load(" + gears[i] + ", 0)", x.load(gears[i], 0), flat[i]);
            Due.due("load(" + gears[i] + ", 9)", x.load(gears[i], 9), steep[i]);
            Due.due("rounds(" + gears[i] + ")", x.rounds(gears[i]), turns[i]);
        }
        for (int gear : new int[] {-1, -6, 5, 11, 12, 18, Integer.MIN_VALUE, Integer.MAX_VALUE}) {
            Due.due("load(" + gear + ", 0)", x.load(gear, 0), BAD);
            Due.due("rounds(" + gear + ")", x.rounds(gear), BAD);
            Due.due("cost(" + gear + ", 0)", x.cost(gear, 0), BAD);
            Due.due("cost(0, " + gear + ")", x.cost(0, gear), BAD);
            Due.due("rank(" + gear + ", 0)", x.rank(gear, 0), BAD);
        }
        Due.due("load(0, -1)", x.load(0, -1), BAD);
        Due.due("load(0, 10)", x.load(0, 10), BAD);
        GearRoad none = new GearRoad();
        Due.due("load(0, 0) of none", none.load(0, 0), BAD);
        Due.due("rounds(0) of none", none.rounds(0), BAD);
        Due.due("cost(0, 0) of none", none.cost(0, 0), BAD);
        Due.due("rank(0, 0) of none", none.rank(0, 0), BAD);
        Due.due("share(0, 0) of none", none.share(0, 0), BAD);
    }

    private static void cost() {
        GearRoad x = Due.bike(FIVE);
        Due.due("cost(0, 0)", x.cost(0, 0), 0);
        Due.due("cost(0, 4)", x.cost(0, 4), 10);
        Due.due("cost(4, 0)", x.cost(4, 0), 10);
        Due.due("cost(1, 2)", x.cost(1, 2), 1);
        Due.due("cost(2, 1)", x.cost(2, 1), 3);
        Due.due("cost(6, 4)", x.cost(6, 4), 15);
        Due.due("cost(4, 10)", x.cost(4, 10), 5);
        GearRoad three = Due.bike("b40;k30;k44;k50;p12;s1;");
        Due.due("cost(0, 12)", three.cost(0, 12), 10);
        Due.due("cost(12, 0)", three.cost(12, 0), 10);
    }

    private static void costByAFixedCog() {
        GearRoad x = Due.bike("b99;k20;k40;p40;f40;p40;r40;s0;s0;s0;");
        Due.due("through a fixed one at 0", x.cost(0, 3), 7);
        x.ride();
        Due.due("through a fixed one at 1", x.cost(0, 3), NONE);
        Due.due("onto a fixed one at 1", x.cost(0, 1), 3);
        Due.due("from a fixed one at 1", x.cost(1, 0), NONE);
        Due.due("from a fixed one, RING beside", x.cost(1, 7), 5);
        Due.due("a fixed one itself", x.cost(1, 1), 0);
        Due.due("from a fixed one to both", x.cost(1, 8), NONE);
        Due.due("past none at 1", x.cost(2, 3), 1);
        Due.due("down through it at 1", x.cost(3, 0), NONE);
        x.ride();
        Due.due("through a fixed one at 2", x.cost(0, 3), 7);
        x.ride();
        Due.due("through a fixed one at THE END", x.cost(0, 3), NONE);
    }

    private static void plan() {
        GearRoad x = Due.bike("b40;k20;k40;p10;p20;s0;s1;s3;");
        // LOADS: gear 0: 20 40 80; gear 1: 10 20 40; gear 6: 40 80 160; gear 7: 20 40 80.
        // TURNS: 51, 101, 26, 51. The last piece needs gear 1.
        Due.due("plan(-1)", x.plan(-1), 5 + 26 + 3 + 51 + 5 + 101);
        Due.due("plan(0)", x.plan(0), 6);
        // Gear 7 (3, 51, 5, 101) and gear 0 (5, 51, 3, 101) are as good there: the first one.
        Due.due("plan(1)", x.plan(1), 0);
        Due.due("plan(2)", x.plan(2), 1);
        Due.due("plan(3)", x.plan(3), NONE);
        Due.due("plan(most)", x.plan(Integer.MAX_VALUE), NONE);
        Due.due("plan(-2)", x.plan(-2), BAD);
        x.slope(2, 4);
        Due.due("plan(-1) of none", x.plan(-1), NONE);
        Due.due("plan(0) of none", x.plan(0), NONE);
        Due.due("plan(-2) without a BIKE", new GearRoad().plan(-2), STATE);
        Due.due("plan(-1) without a BIKE", new GearRoad().plan(-1), STATE);
        Due.due("nothing is turned by plans", x.count(7), 0);
    }

    private static void planOfSeveral() {
        GearRoad same = Due.bike("b99;k20;p20;p20;p20;s0;s0;");
        same.shift(1);
        Due.due("COGS alike: plan(-1)", same.plan(-1), 202);
        Due.due("COGS alike: plan(0) is the one as it is", same.plan(0), 1);
        // From p11 (56): down or up to a ramped one of 10, 1 and 51 either way.
        GearRoad sides = Due.bike("b99;k20;r10;p11;r10;s0;");
        sides.shift(1);
        Due.due("two as good: plan(-1)", sides.plan(-1), 52);
        Due.due("two as good: plan(0) is the first", sides.plan(0), 0);
        // PIECE 1 bears the oval one alone; it takes 3 TURNS to shift at either PIECE.
        GearRoad early = Due.bike("b90;k40;o40;p40;s0;s9;");
        early.shift(1);
        Due.due("early or late: plan(-1)", early.plan(-1), 205);
        Due.due("early: plan(0)", early.plan(0), 0);
        Due.due("early: plan(1)", early.plan(1), 0);
        GearRoad late = Due.bike("b90;k40;p40;o40;s0;s9;");
        Due.due("late or early: plan(-1)", late.plan(-1), 205);
        Due.due("late: plan(0)", late.plan(0), 0);
        Due.due("late: plan(1)", late.plan(1), 1);
    }

    private static void planAround() {
        GearRoad x = Due.bike("b99;k20;f20;p40;s0;s9;");
        // gear 0 at PIECE 1: 100 - 10 = 90; with 89 one has to shift ahead of PIECE 0, as f is fixed at 1.
        Due.due("gear 0 all the way", x.plan(-1), 202);
        x.strength(89);
        Due.due("shift ahead of PIECE 0", x.plan(-1), 3 + 201 + 201);
        Due.due("gear at 0", x.plan(0), 1);
        x.ride();
        Due.due("too late", x.plan(-1), NONE);
        Due.due("too late for a GEAR", x.plan(0), NONE);
        Due.due("least then", x.least(), 90);
        x.strength(90);
        Due.due("one PIECE left", x.plan(-1), 101);
        Due.due("its GEAR", x.plan(0), 0);
        Due.due("no more", x.plan(1), NONE);
        x.ride();
        Due.due("at THE END: plan(-1)", x.plan(-1), 0);
        Due.due("at THE END: plan(0)", x.plan(0), NONE);
        Due.due("at THE END: least()", x.least(), 1);
        x.about();
        Due.due("about: plan(-1)", x.plan(-1), 202);
    }

    private static void least() {
        Due.due("least()", Due.bike(FIVE).least(), 68);
        GearRoad x = Due.bike("b1;k60;p10;s0;");
        Due.due("least() of 60", x.least(), 60);
        x.slope(0, 1);
        Due.due("least() above 99", x.least(), NONE);
        GearRoad edge = Due.bike("b1;k33;p10;s2;");
        Due.due("least() of 99", edge.least(), 99);
        GearRoad above = Due.bike("b1;k40;p12;s2;");
        Due.due("least() of 100", above.least(), NONE);
        Due.due("least() keeps STRENGTH", x.count(4), 1);
        Due.due("least() without a BIKE", new GearRoad().least(), STATE);
    }

    private static void rank() {
        GearRoad x = Due.bike("b99;k20;k40;k60;f10;p20;r20;w30;o40;f40;s9;");
        int[] ranks = {10, 3, 3, 2, 0, 0, 16, 10, 10, 7};
        int[] alike = {3, 3, 3, 0, 1, 1, 0, 3, 3, 0};
        for (int gear = 0; gear < ranks.length; gear++) {
            Due.due("rank(" + gear + ", 0)", x.rank(gear, 0), ranks[gear]);
            Due.due("rank(" + gear + ", 1)", x.rank(gear, 1), alike[gear]);
        }
        Due.due("rank(0, 2)", x.rank(0, 2), BAD);
        Due.due("rank(0, -1)", x.rank(0, -1), BAD);
        GearRoad near = Due.bike("b99;k59;k60;p39;p40;s0;");
        // 59 by 39 is 1.5128.., 60 by 40 is 1.5, 59 by 40 is 1.475, 60 by 39 is 1.538..
        int[] order = {2, 0, 3, 1};
        int[] gears = {0, 1, 6, 7};
        for (int i = 0; i < 4; i++) Due.due("near rank", near.rank(gears[i], 0), order[i]);
    }

    private static void share() {
        GearRoad x = Due.bike("b99;k20;p20;r20;w20;p20;s0;s0;s0;");
        for (int cog = 0; cog < 4; cog++) Due.due("share of nothing", x.share(cog, 999), 0);
        x.shift(1);
        x.shift(1);
        // On 1: 1, on 2: 3. Of 10: 2.5 and 7.5, cut 2 and 7; 1 is over.
        Due.due("share(0, 10)", x.share(0, 10), 0);
        Due.due("share(1, 10)", x.share(1, 10), 3);
        Due.due("share(2, 10)", x.share(2, 10), 7);
        Due.due("share(3, 10)", x.share(3, 10), 0);
        Due.due("share(1, 0)", x.share(1, 0), 0);
        Due.due("share(1, 1)", x.share(1, 1), 1);
        Due.due("share(2, 1)", x.share(2, 1), 0);
        x.shift(1);
        // 1, 3, 3: of 999: 142.7, 428.1, 428.1: 998, 1 over. Of 6: 0, 2, 2: 2 over.
        int[] all = {0, 143, 428, 428};
        int[] six = {0, 1, 3, 2};
        for (int cog = 0; cog < 4; cog++) Due.due("share of 999", x.share(cog, 999), all[cog]);
        for (int cog = 0; cog < 4; cog++) Due.due("share of 6", x.share(cog, 6), six[cog]);
        x.front(1);
        Due.due("share(4, 0)", x.share(4, 0), BAD);
        Due.due("share(-1, 0)", x.share(-1, 0), BAD);
        Due.due("share(0, -1)", x.share(0, -1), BAD);
        Due.due("share(0, 1000)", x.share(0, 1000), BAD);
        GearRoad rings = Due.bike("b99;k20;k40;p20;r20;s0;");
        rings.front(1);
        rings.shift(1);
        Due.due("RINGS do not count", rings.share(1, 100), 100);
    }

    private static GearRoad withRow(String text, int lane, int... items) {
        GearRoad x = Due.bike(text);
        x.row(0, lane, items.length);
        for (int i = 0; i < items.length; i++) x.set(0, i, items[i]);
        return x;
    }

    private static void dueFits(GearRoad x, int i, int n, int... wants) {
        for (int what = 0; what < 5; what++) {
            Due.due("fits(0, " + i + ", " + n + ", " + what + ")", x.fits(0, i, n, what), wants[what]);
        }
    }

    private static void fits() {
        GearRoad x = withRow("b99;k20;k40;k60;f10;p20;r20;w30;o40;f40;s9;s0;s9;s5;s5;s9;", 1, 0, 51, 0, 0, 51, 0);
        dueFits(x, 0, 1, 62, 9, 10, 99, 1);
        dueFits(x, 0, 2, 58, 1, 10, 82, 18);
        dueFits(x, 0, 6, 0, 0, NONE, 0, NONE);
        // As s9 twice: 180 is too heavy, so 0 and 0; the row there is 51, 0.
        dueFits(x, 1, 2, 0, 0, NONE, 0, NONE);
        GearRoad worn = withRow("b99;k20;p10;s0;s0;", 2, 63, 63);
        // 51 and 12 more is worn; plain: no teeth give 63 (5 times teeth, and 1).
        dueFits(worn, 0, 2, 4, 0, NONE, 0, NONE);
        GearRoad oval = withRow("b20;k20;p10;s0;s0;", 2, 51);
        dueFits(oval, 0, 1, 2 + 8 + 16 + 32, 1, 10, 80, 20);
        oval.strength(18);
        dueFits(oval, 0, 1, 16 + 32, 0, NONE, 80, 20);
        // Teeth 20, 21: 100 * 20 / 60 = 33, 100 * 21 / 60 = 35: one each; on 60 ring 34 is 20 alone.
        GearRoad cut = withRow("b99;k60;p20;s0;", 2, 34);
        dueFits(cut, 0, 1, 2 + 8 + 16 + 32, 1, 20, 70, 30);
        GearRoad bytes = withRow("b99;k20;p40;s0;", 0, 201);
        dueFits(bytes, 0, 1, 0, 0, NONE, 0, NONE);
        GearRoad shorts = withRow("b99;k20;p40;s0;", 1, 201 + 65536);
        dueFits(shorts, 0, 1, 2 + 8 + 16 + 32, 1, 40, 95, 5);
    }

    private static void fitsBeyondTheEnd() {
        GearRoad x = withRow("b99;k20;p10;s0;s0;", 2, 51, 0, 0, 51);
        dueFits(x, 0, 2, 0, 0, NONE, 0, NONE);
        x.ride();
        dueFits(x, 0, 3, 2 + 8 + 16 + 32, 1, 10, 80, 20);
        x.ride();
        dueFits(x, 1, 2, 62, 31, 10, 99, 1);
        dueFits(x, 2, 2, 0, 0, NONE, 0, NONE);
        Due.due("where one is stays", x.count(6), 2);
    }

    private static void fitsRefusals() {
        GearRoad x = withRow("b99;k20;p10;s0;s0;", 2, 51, 0, 0, 51);
        Due.due("fits row 8", x.fits(8, 0, 1, 0), BAD);
        Due.due("fits row -1", x.fits(-1, 0, 1, 0), BAD);
        Due.due("fits n 0", x.fits(0, 0, 0, 0), BAD);
        Due.due("fits n 7", x.fits(0, 0, 7, 0), BAD);
        Due.due("fits n -1", x.fits(0, 0, -1, 0), BAD);
        Due.due("fits what 5", x.fits(0, 0, 1, 5), BAD);
        Due.due("fits what -1", x.fits(0, 0, 1, -1), BAD);
        Due.due("fits BAD ahead of NULL", x.fits(1, 0, 1, 5), BAD);
        Due.due("fits missing", x.fits(1, -1, 1, 0), -1000011);
        Due.due("fits i -1", x.fits(0, -1, 1, 0), -1000012);
        Due.due("fits i 4", x.fits(0, 4, 1, 0), -1000012);
        Due.due("fits i most", x.fits(0, Integer.MAX_VALUE, 6, 0), -1000012);
        Due.due("fits beyond", x.fits(0, 2, 3, 0), -1000012);
        GearRoad none = new GearRoad();
        Due.due("BAD ahead of STATE", none.fits(0, 0, 9, 0), BAD);
        Due.due("STATE ahead of NULL", none.fits(0, 0, 1, 0), STATE);
    }

    private static void dueChance(GearRoad x, int c, int above, int below) {
        Due.due("chance(" + c + ", 0)", x.chance(c, 0), above);
        Due.due("chance(" + c + ", 1)", x.chance(c, 1), below);
    }

    private static void chance() {
        // Gear 0: 10 times (SLOPE and 1): s0, s3, s6, s9 bear it up to 90 but the last; s6 not if steeper.
        GearRoad x = Due.bike("b90;k20;p20;s6;s6;s0;s8;");
        dueChance(x, 0, 1, 1);
        dueChance(x, 3, 343, 1000);
        dueChance(x, 4, 27, 125);
        dueChance(x, 5, 1, 8);
        dueChance(x, 10, 0, 1);
        x.strength(99);
        dueChance(x, 1, 729, 1000);
        x.slope(3, 9);
        dueChance(x, 0, 0, 1);
        x.slope(3, 5);
        dueChance(x, 2, 16, 25);
        x.ride();
        dueChance(x, 2, 4, 5);
        x.ride();
        dueChance(x, 2, 1, 1);
        x.ride();
        x.ride();
        dueChance(x, 10, 1, 1);
        GearRoad six = Due.bike("b90;k20;p20;s6;s6;s6;s6;s6;s6;");
        dueChance(six, 1, 531441, 1000000);
        dueChance(six, 9, 1, 1000000);
        // A PIECE of 9 gets no steeper.
        GearRoad nine = Due.bike("b50;k20;p40;s9;");
        dueChance(nine, 10, 1, 1);
        Due.due("chance(-1, 0)", x.chance(-1, 0), BAD);
        Due.due("chance(11, 0)", x.chance(11, 0), BAD);
        Due.due("chance(0, 2)", x.chance(0, 2), BAD);
        Due.due("chance(0, -1)", x.chance(0, -1), BAD);
        Due.due("chance(11, 0) without a BIKE", new GearRoad().chance(11, 0), STATE);
    }

    private static void drawn() {
        GearRoad x = Due.bike(FIVE);
        Due.due("drawn(0, 1, 0)", x.drawn(0, 1, 0), 0);
        Due.due("drawn(20, 7, 0)", x.drawn(20, 7, 0), 88);
        Due.due("drawn(20, 7, 1)", x.drawn(20, 7, 1), 1);
        Due.due("drawn(60, 9, 0)", x.drawn(60, 9, 0), 93);
        Due.due("drawn(60, 9, 1)", x.drawn(60, 9, 1), 1);
        Due.due("drawn(-1, 1, 0)", x.drawn(-1, 1, 0), BAD);
        Due.due("drawn(61, 1, 0)", x.drawn(61, 1, 0), BAD);
        Due.due("drawn(1, 0, 0)", x.drawn(1, 0, 0), BAD);
        Due.due("drawn(1, 1000000, 0)", x.drawn(1, 1000000, 0), BAD);
        Due.due("drawn(1, 999999, 2)", x.drawn(1, 999999, 2), BAD);
        Due.due("drawn(1, 1, -1)", x.drawn(1, 1, -1), BAD);
        Due.due("drawn(99, 0, 0) without a BIKE", new GearRoad().drawn(99, 0, 0), STATE);
        // One COG and one RING: nothing to shift; 60 steps are eight times six RIDES and ABOUT, and four RIDES.
        GearRoad alone = Due.bike("b99;k20;p40;s0;s1;s2;s3;s4;s5;");
        Due.due("rides alone", alone.drawn(60, 999999, 1), 52);
        Due.due("turned alone", alone.drawn(60, 999999, 0), 52 * 201);
        // Seed 1: X is 16807 (by 4: 3), no shift; then 282475249 (by 4: 1), the COG 1 less.
        GearRoad two = Due.bike("b99;k20;p40;r40;s0;s0;s0;");
        two.shift(1);
        Due.due("one step", two.drawn(1, 1, 0), 201);
        Due.due("two steps", two.drawn(2, 1, 0), 201 + 3 + 201);
        // Seed 6: X is 100842 (by 4: 2, by 3: 0), RING 0; seed 2: 33614 (by 4: 2, by 3: 2), none.
        GearRoad rings = Due.bike("b99;k20;k40;k60;p40;s0;");
        Due.due("to the RING as it is", rings.drawn(1, 6, 0), 201);
        rings.front(1);
        rings.front(1);
        Due.due("to a RING that is not beside", rings.drawn(1, 6, 0), 5 + 201);
        Due.due("to no RING", rings.drawn(1, 2, 0), 67);
    }

    private static void drawnChangesNothing() {
        GearRoad x = Due.bike("b99;k20;k30;p40;r40;f30;s0;s1;s3;");
        x.shift(1);
        for (int seed = 1; seed < 40; seed++) x.drawn(60, seed, 0);
        int[] counts = {0, 3, 2, 3, 99, 1, 0, 1, 1, 0};
        for (int i = 0; i < counts.length; i++) Due.due("count(" + i + ")", x.count(i), counts[i]);
        int[] slopes = {0, 1, 3};
        for (int i = 0; i < 3; i++) Due.due("slope", x.piece(i, 0), slopes[i]);
        Due.due("turned on 1", x.cog(1, 1), 1);
        Due.due("turned on 0", x.cog(0, 1), 0);
    }
}
