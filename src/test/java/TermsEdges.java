import java.util.function.ToIntFunction;

/** The head of "Terms": numbers, divisions, sets, refusals. */
final class TermsEdges {
    private static final int NONE = GearRoad.NONE, BAD = GearRoad.BAD, STATE = GearRoad.STATE, FULL = GearRoad.FULL;
    private static final int NULL = -1000011, PLACE = -1000012, KIND = -1000013, SIZE = -1000014, STORE = -1000015;

    private TermsEdges() {
    }

    static void all() {
        fromZeroOn();
        cut();
        fractions();
        bits();
        firstThatFits();
        firstInTime();
        findings();
        changesNothing();
        fullChangesNothing();
        noBikeChangesNothing();
    }

    private static void fromZeroOn() {
        Due.says(0, "Numbers go from 0 on.");
        GearRoad x = Due.bike("b99;k20;k21;p10;p11;s0;s1;");
        x.row(0, 0, 2);
        x.row(1, 0, 2);
        ToIntFunction<Integer>[] calls = calls(x);
        for (int i = 0; i < calls.length; i++) {
            int refusal = i == 0 ? PLACE : i == 8 ? NONE : BAD;
            for (int number = -1; number <= 2; number++) {
                int got = calls[i].applyAsInt(number);
                if (number == 0 || number == 1) Due.due("call " + i + " of " + number + " is there", got > NONE);
                else Due.due("call " + i + " of " + number, got, refusal);
            }
        }
    }

    /** Of which 0 and 1 are there, -1 and 2 are not. */
    @SuppressWarnings("unchecked")
    private static ToIntFunction<Integer>[] calls(GearRoad x) {
        return (ToIntFunction<Integer>[]) new ToIntFunction<?>[] {
            (Integer i) -> x.set(0, i, 7), (Integer i) -> x.cog(i, 0), (Integer i) -> x.ring(i), (Integer i) -> x.piece(i, 0),
            (Integer i) -> x.slope(i, 3), (Integer i) -> x.kind(i), (Integer i) -> x.share(i, 3), (Integer i) -> x.image(i),
            (Integer i) -> traceOfTwo(x, i), (Integer i) -> x.restore(i), (Integer i) -> x.rounds(i), (Integer i) -> x.as(i, 1)};
    }

    private static int traceOfTwo(GearRoad x, int i) {
        x.ask(0, 1);
        return x.trace(i);
    }

    private static void cut() {
        Due.says(0, "All that is divided is cut towards 0,");
        // LOAD 200 by 24, 25, 26: 8.33, 8, 7.69.
        GearRoad x = Due.bike("b99;k20;p24;p25;p26;o21;o20;w11;s0;");
        int[] loads = {8, 8, 7, 9, 9, 18};
        for (int cog = 0; cog < 6; cog++) Due.due("load(" + cog + ", 0)", x.load(cog, 0), loads[cog]);
        // TURNS 1000, 1050, 1100 by 50, 49, 48 and their like: 20, 20.4, 20.8.
        GearRoad turns = Due.bike("b99;k50;k49;k48;p10;p11;w10;w11;s0;");
        int[] gears = {0, 6, 12, 1, 7, 13, 2, 3, 8, 9};
        int[] wants = {21, 21, 21, 23, 23, 23, 26, 28, 26, 28};
        for (int i = 0; i < gears.length; i++) Due.due("rounds(" + gears[i] + ")", turns.rounds(gears[i]), wants[i]);
        // SHARES of 2 by halves, of 1 and 3 by thirds of which none is whole.
        GearRoad share = Due.bike("b99;k20;p10;p11;p12;p13;s0;");
        share.shift(1);
        share.shift(1);
        share.shift(1);
        int[] ns = {2, 3, 4};
        int[] lasts = {0, 1, 1};
        for (int i = 0; i < 3; i++) Due.due("share(3, " + ns[i] + ")", share.share(3, ns[i]), lasts[i]);
    }

    private static void fractions() {
        Due.says(0, "but fractions, told as two numbers in lowest terms (0 is 0 by 1).");
        // p20: 70 on SLOPE 6, 100 if it is steeper; 10, 40 on SLOPE 0.
        for (int pieces = 1; pieces <= 6; pieces++) {
            GearRoad x = Due.bike("b99;k20;p20;" + "s6;".repeat(pieces));
            int ten = 1;
            for (int i = 0; i < pieces; i++) ten *= 10;
            for (int c = 0; c <= 10; c++) {
                int above = 1;
                for (int i = 0; i < pieces; i++) above *= 10 - c;
                int a = x.chance(c, 0);
                int b = x.chance(c, 1);
                Due.due("as much, " + c + " of " + pieces, (long) a * ten, (long) above * b);
                Due.due("in lowest terms, " + c + " of " + pieces, highestCommon(a, b), 1);
                Due.due("above is not below 0, below is above 0", a >= 0 && b >= 1);
            }
            Due.due("0 of " + pieces, x.chance(10, 0), 0);
            Due.due("by 1 of " + pieces, x.chance(10, 1), 1);
            Due.due("1 of " + pieces, x.chance(0, 0), 1);
            Due.due("by 1 of " + pieces, x.chance(0, 1), 1);
        }
        GearRoad six = Due.bike("b99;k20;p20;s6;s6;s6;s6;s6;s6;");
        Due.due("the most below", six.chance(1, 1), 1000000);
        Due.due("the most above", six.chance(1, 0), 531441);
        Due.due("halves", six.chance(5, 1), 64);
    }

    private static int highestCommon(int a, int b) {
        return b == 0 ? a : highestCommon(b, a % b);
    }

    private static void bits() {
        Due.says(0, "Sets are bits.");
        // LOADS on SLOPE 0: 20, 10, 5, 40, 20, 10.
        GearRoad x = Due.bike("b99;k20;k40;p10;p20;p40;s0;");
        int[] strengths = {4, 5, 9, 10, 19, 20, 39, 40};
        int[] sets = {0, 4, 4, 4 + 2 + 256, 4 + 2 + 256, 4 + 2 + 256 + 1 + 128, 4 + 2 + 256 + 1 + 128, 4 + 2 + 256 + 1 + 128 + 64};
        for (int i = 0; i < strengths.length; i++) {
            x.strength(strengths[i]);
            Due.due("piece(0, 1) by " + strengths[i], x.piece(0, 1), sets[i]);
        }
        x.row(0, 2, 3);
        x.set(0, 1, 51);
        x.set(0, 2, 63);
        x.strength(20);
        int[] sorts = {0, 2 + 8 + 16 + 32, 4};
        for (int i = 0; i < 3; i++) Due.due("fits(0, " + i + ", 1, 0)", x.fits(0, i, 1, 0), sorts[i]);
        GearRoad all = Due.bike("b60;k20;k40;k60;p10;p10;p10;p10;p10;p10;s0;");
        Due.due("the 18 GEARS", all.piece(0, 1), 0x3FFFF);
        all.strength(59);
        Due.due("without the last six", all.piece(0, 1), 0xFFF);
    }

    private static void firstThatFits() {
        Due.says(0, "Refusals are answers, the first of these that fits, but as told: BAD (a number is not as told; there is no such thing), "
            + "STATE (as told), FULL (as told), then FINDINGS,");
        Due.due("NONE", NONE, -1000000);
        Due.due("BAD", BAD, -1000001);
        Due.due("STATE", STATE, -1000002);
        Due.due("FULL", FULL, -1000003);
        GearRoad none = new GearRoad();
        // BAD ahead of STATE, where nothing else is told.
        int[] bads = {none.fits(8, 0, 1, 0), none.fits(0, 0, 7, 0), none.fits(0, 0, 1, 5), none.image(2), none.restore(2)};
        for (int i = 0; i < bads.length; i++) Due.due("BAD ahead of STATE, call " + i, bads[i], BAD);
        int[] states = {none.shift(2), none.front(2), none.strength(0), none.plan(-2), none.chance(11, 2), none.drawn(61, 0, 2)};
        for (int i = 0; i < states.length; i++) Due.due("STATE ahead of BAD, call " + i, states[i], STATE);
        Due.due("STATE ahead of FINDINGS", none.fits(0, -1, 1, 0), STATE);
        for (int i = 0; i < 80; i++) none.feed('b');
        Due.due("BAD ahead of FULL", none.feed(256), BAD);
        Due.due("FULL", none.feed(255), FULL);
        GearRoad x = Due.bike("b1;k20;p10;s0;");
        Due.due("BAD ahead of STATE: none beside", x.shift(0), BAD);
        Due.due("BAD ahead of STATE: no RING beside", x.front(3), BAD);
        int[] ahead = {x.row(0, 0, 41), x.row(-1, 0, -1), x.row(0, 3, -1), x.set(8, -1, 0), x.copy(0, -1, 8, -1, -1), x.drop(8),
            x.fits(0, -1, 0, 0), x.as(0, 6), x.as(1, 2)};
        for (int i = 0; i < ahead.length; i++) Due.due("BAD ahead of FINDINGS, call " + i, ahead[i], BAD);
    }

    private static void firstInTime() {
        Due.says(0, "of several the first in time:");
        GearRoad x = Due.bike("b1;k20;p10;s0;");
        x.row(0, 0, 2);
        x.row(1, 1, 2);
        Due.due("set: NULL ahead of PLACE", x.set(2, 9, 0), NULL);
        Due.due("copy: NULL ahead of PLACE", x.copy(0, 9, 2, 9, 9), NULL);
        Due.due("copy: NULL ahead of PLACE", x.copy(2, -1, 0, -1, -1), NULL);
        Due.due("copy: STORE ahead of PLACE", x.copy(0, 9, 1, 9, 9), STORE);
        Due.due("copy: PLACE alone", x.copy(0, 9, 0, 9, 9), PLACE);
        Due.due("fits: NULL ahead of PLACE", x.fits(2, 9, 1, 0), NULL);
        Due.due("fits: PLACE alone", x.fits(0, 9, 1, 0), PLACE);
    }

    private static void findings() {
        Due.says(0, "-1000010 less 1 NULL (a ROW that is missing), 2 PLACE (no such place of a ROW), 3 KIND (a COG that is not that), "
            + "4 SIZE (fewer than none), 5 STORE (ROWS of two LANES).");
        GearRoad x = Due.bike("b1;k20;p10;s0;");
        x.row(0, 0, 1);
        x.row(1, 1, 1);
        int[] found = {x.drop(2), x.status(), x.set(0, 1, 0), x.status(), x.as(0, 2), x.status(), x.row(0, 0, -1), x.status(),
            x.copy(0, 0, 1, 0, 1), x.status()};
        int[] wants = {-1000011, 1, -1000012, 2, -1000013, 3, -1000014, 4, -1000015, 5};
        for (int i = 0; i < wants.length; i++) Due.due("answer " + i, found[i], wants[i]);
        Due.due("the names are these", NULL - 4 == STORE && PLACE - 2 == SIZE && KIND == -1000013);
    }

    /** A BIKE in use, on a fixed COG at PIECE 1, with an IMAGE, ROWS, a tape and a trace; the latest FINDING is NULL. */
    private static GearRoad inUse() {
        GearRoad x = Due.bike("b40;k20;k40;f20;p10;s0;s9;s1;");
        x.image(0);
        x.ride();
        x.slope(2, 2);
        x.row(0, 2, 3);
        x.set(0, 1, 101);
        x.row(1, 1, 2);
        x.ask(1, 0);
        x.feed('b');
        x.feed('7');
        x.drop(7);
        return x;
    }

    @SuppressWarnings("unchecked")
    private static ToIntFunction<GearRoad>[] refused() {
        return (ToIntFunction<GearRoad>[]) new ToIntFunction<?>[] {
            (GearRoad x) -> x.row(8, 0, 1), (GearRoad x) -> x.row(0, 3, 1), (GearRoad x) -> x.row(0, 0, 41),
            (GearRoad x) -> x.set(-1, 0, 51), (GearRoad x) -> x.copy(8, 0, 0, 0, 1), (GearRoad x) -> x.copy(0, 0, -1, 0, 1),
            (GearRoad x) -> x.drop(8), (GearRoad x) -> x.feed(-1), (GearRoad x) -> x.feed(256), (GearRoad x) -> x.ride(),
            (GearRoad x) -> x.shift(2), (GearRoad x) -> x.shift(1), (GearRoad x) -> x.shift(-1), (GearRoad x) -> x.front(0),
            (GearRoad x) -> x.front(-1), (GearRoad x) -> x.strength(0), (GearRoad x) -> x.strength(100), (GearRoad x) -> x.slope(3, 0),
            (GearRoad x) -> x.slope(0, 10), (GearRoad x) -> x.cog(2, 0), (GearRoad x) -> x.cog(0, 4), (GearRoad x) -> x.ring(2),
            (GearRoad x) -> x.piece(3, 0), (GearRoad x) -> x.piece(0, 3), (GearRoad x) -> x.load(2, 0), (GearRoad x) -> x.load(0, 10),
            (GearRoad x) -> x.rounds(2), (GearRoad x) -> x.cost(0, 2), (GearRoad x) -> x.plan(-2), (GearRoad x) -> x.rank(0, 2),
            (GearRoad x) -> x.share(0, 1000), (GearRoad x) -> x.fits(8, 0, 1, 0), (GearRoad x) -> x.fits(0, 0, 7, 0),
            (GearRoad x) -> x.fits(0, 0, 1, 5), (GearRoad x) -> x.chance(11, 0), (GearRoad x) -> x.chance(0, 2),
            (GearRoad x) -> x.drawn(61, 1, 0), (GearRoad x) -> x.drawn(1, 0, 0), (GearRoad x) -> x.drawn(1, 1, 2),
            (GearRoad x) -> x.image(2), (GearRoad x) -> x.restore(-1), (GearRoad x) -> x.restore(1), (GearRoad x) -> x.kind(2),
            (GearRoad x) -> x.as(2, 0), (GearRoad x) -> x.as(0, 6), (GearRoad x) -> x.ask(2, 0), (GearRoad x) -> x.ask(0, 2),
            (GearRoad x) -> x.count(10)};
    }

    @SuppressWarnings("unchecked")
    private static ToIntFunction<GearRoad>[] found() {
        return (ToIntFunction<GearRoad>[]) new ToIntFunction<?>[] {
            (GearRoad x) -> x.row(0, 0, -1), (GearRoad x) -> x.row(5, 0, -1), (GearRoad x) -> x.set(5, 0, 51),
            (GearRoad x) -> x.set(0, 3, 51), (GearRoad x) -> x.copy(0, 0, 5, 0, 1), (GearRoad x) -> x.copy(5, 0, 0, 0, 1),
            (GearRoad x) -> x.copy(0, 0, 1, 0, 1), (GearRoad x) -> x.copy(0, 0, 0, 1, 3), (GearRoad x) -> x.copy(0, 0, 0, 1, -1),
            (GearRoad x) -> x.drop(5), (GearRoad x) -> x.fits(5, 0, 1, 0), (GearRoad x) -> x.fits(0, 3, 1, 0),
            (GearRoad x) -> x.as(0, 1), (GearRoad x) -> x.as(1, 2)};
    }

    private static void changesNothing() {
        Due.says(0, "What is refused, or found, changes nothing but status().");
        ToIntFunction<GearRoad>[] refused = refused();
        for (int i = 0; i < refused.length; i++) {
            GearRoad x = inUse();
            int answer = refused[i].applyAsInt(x);
            Due.due("call " + i + " is refused", answer == BAD || answer == STATE);
            Due.due("status() behind refused call " + i, x.status(), 1);
            Due.due("fault() behind refused call " + i, x.fault(), 0);
            Twins.same("behind refused call " + i, x, inUse());
        }
        int[] numbers = {4, 4, 1, 2, 1, 1, 5, 2, 2, 1, 1, 2, 3, 3};
        ToIntFunction<GearRoad>[] found = found();
        for (int i = 0; i < found.length; i++) {
            GearRoad x = inUse();
            Due.due("call " + i + " finds", found[i].applyAsInt(x), -1000010 - numbers[i]);
            Due.due("status() behind call " + i + " that finds", x.status(), numbers[i]);
            Twins.same("behind call " + i + " that finds", x, inUse());
        }
    }

    private static void fullChangesNothing() {
        String text = "b9;k20;p10;s0;";
        GearRoad x = new GearRoad();
        x.drop(0);
        for (int i = 0; i < 80; i++) x.feed(i < 14 ? text.charAt(i) : 's');
        Due.due("feed() on a full tape", x.feed(';'), FULL);
        Due.due("status() behind FULL", x.status(), 1);
        Due.due("count(9) behind FULL", x.count(9), 80);
        Due.due("bike() behind FULL", x.bike(), -1000115);
    }

    private static void noBikeChangesNothing() {
        ToIntFunction<GearRoad>[] refused = refused();
        for (int i = 0; i < refused.length; i++) {
            GearRoad x = new GearRoad();
            int answer = refused[i].applyAsInt(x);
            Due.due("call " + i + " is refused without a BIKE", answer == BAD || answer == STATE);
            Due.due("status() behind it", x.status(), 0);
            Twins.same("without a BIKE, behind refused call " + i, x, new GearRoad());
        }
    }
}
