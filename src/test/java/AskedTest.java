/** Promises 29 to 35: image, restore, kind, as, ask, trace, count. */
public final class AskedTest {
    private static final int BAD = GearRoad.BAD, STATE = GearRoad.STATE, NONE = GearRoad.NONE;
    private static final String FIVE = "b40;k30;k44;p12;w16;r20;o28;f32;s1;s4;s0;s7;";

    public static void main(String[] args) {
        images();
        imagesOfOtherBikes();
        kinds();
        asks();
        asksBehindTurns();
        theTraceStays();
        counts();
        Due.end();
    }

    private static void images() {
        GearRoad x = Due.bike("b90;k20;k30;p40;r30;s1;s2;s3;");
        x.ride();
        x.shift(1);
        x.front(1);
        Due.due("image(0)", x.image(0), 1);
        Due.due("acts stay", x.count(8), 3);
        x.about();
        x.strength(50);
        x.slope(0, 0);
        x.ride();
        x.shift(-1);
        Due.due("image(1)", x.image(1), 1);
        Due.due("restore(0)", x.restore(0), 1);
        int[] counts = {0, 2, 2, 3, 90, 7, 1, 207, 0, 0};
        for (int i = 0; i < counts.length; i++) Due.due("restored count(" + i + ")", x.count(i), counts[i]);
        for (int i = 0; i < 3; i++) Due.due("restored slope", x.piece(i, 0), i + 1);
        Due.due("restored turned on 0", x.cog(0, 1), 201);
        Due.due("restored turned on 1", x.cog(1, 1), 1);
        Due.due("undo() behind restore()", x.undo(), STATE);
        x.slope(1, 9);
        x.shift(-1);
        Due.due("restore(0) again", x.restore(0), 1);
        Due.due("the image is as it was", x.piece(1, 0), 2);
        Due.due("the image's GEAR is as it was", x.count(5), 7);
        Due.due("restore(1)", x.restore(1), 1);
        Due.due("strength of the other", x.count(4), 50);
        for (int k : new int[] {-1, 2, Integer.MIN_VALUE}) {
            Due.due("image(" + k + ")", x.image(k), BAD);
            Due.due("restore(" + k + ")", x.restore(k), BAD);
        }
        GearRoad none = new GearRoad();
        Due.due("image(2) without a BIKE", none.image(2), BAD);
        Due.due("image(0) without a BIKE", none.image(0), STATE);
        Due.due("restore(0) of none", none.restore(0), STATE);
        Due.due("restore(1) of none", none.restore(1), STATE);
    }

    private static void imagesOfOtherBikes() {
        GearRoad x = Due.bike(FIVE);
        x.image(0);
        Due.due("another BIKE", Due.read(x, "b50;k20;p10;s0;"), 1);
        Due.due("restore(1)", x.restore(1), STATE);
        Due.due("restore(0)", x.restore(0), 1);
        int[] counts = {0, 5, 2, 4, 40, 0, 0, 0, 0, 0};
        for (int i = 0; i < counts.length; i++) Due.due("the first count(" + i + ")", x.count(i), counts[i]);
        Due.due("its teeth", x.cog(4, 0), 32);
        Due.due("its kind", x.kind(4), 5);
        Due.due("its ring", x.ring(1), 44);
        Due.due("its slope", x.piece(3, 0), 7);
    }

    private static void kinds() {
        GearRoad x = Due.bike(FIVE);
        int[][] are = {{0, 1}, {0, 1, 2}, {0, 1, 3}, {0, 4}, {0, 4, 5}};
        for (int cog = 0; cog < 5; cog++) {
            Due.due("kind(" + cog + ")", x.kind(cog), cog + 1);
            for (int kind = 0; kind <= 5; kind++) {
                boolean is = false;
                for (int each : are[cog]) is |= each == kind;
                Due.due("as(" + cog + ", " + kind + ")", x.as(cog, kind), is ? cog : -1000013);
                Due.due("status of it", x.status(), is ? 0 : 3);
            }
        }
        Due.due("kind(5)", x.kind(5), BAD);
        Due.due("kind(-1)", x.kind(-1), BAD);
        Due.due("as(5, 0)", x.as(5, 0), BAD);
        Due.due("as(-1, 0)", x.as(-1, 0), BAD);
        Due.due("as(0, 6)", x.as(0, 6), BAD);
        Due.due("as(0, -1)", x.as(0, -1), BAD);
        Due.due("kind(0) without a BIKE", new GearRoad().kind(0), BAD);
        Due.due("as(0, 0) without a BIKE", new GearRoad().as(0, 0), BAD);
    }

    private static void dueAsk(GearRoad x, int cog, int what, int want, int... trace) {
        Due.due("ask(" + cog + ", " + what + ")", x.ask(cog, what), want);
        for (int i = 0; i <= 16; i++) {
            Due.due("ask(" + cog + ", " + what + "): trace(" + i + ")", x.trace(i), i < trace.length ? trace[i] : NONE);
        }
        Due.due("trace(-1)", x.trace(-1), NONE);
    }

    private static void asks() {
        GearRoad x = Due.bike(FIVE);
        dueAsk(x, 0, 0, 12, 11, 10, 21, 20);
        dueAsk(x, 0, 1, 0, 21, 20);
        dueAsk(x, 1, 0, -18, 12, 11, 10, 24, 21, 20);
        dueAsk(x, 1, 1, 2, 24, 21, 20);
        dueAsk(x, 2, 0, 20 + 2 - 1000, 11, 10, 22, 21, 20);
        dueAsk(x, 2, 1, 2 - 1000, 22, 21, 20);
        dueAsk(x, 3, 0, 28 - 100, 13, 10);
        dueAsk(x, 3, 1, 3 - (28 - 100), 23, 20, 13, 10);
        dueAsk(x, 4, 0, 2 * (32 - 100), 14, 13, 10);
        dueAsk(x, 4, 1, 4 - 2 * (32 - 100), 23, 20, 14, 13, 10);
    }

    private static void asksBehindTurns() {
        GearRoad x = Due.bike("b99;k20;p40;w40;r40;s0;s0;s0;");
        x.ride();
        x.shift(1);
        x.ride();
        x.shift(1);
        Due.due("MARK of a plain one", x.ask(0, 1), 201);
        Due.due("SIZE of a plain one", x.ask(0, 0), 241);
        Due.due("MARK of a worn one", x.ask(1, 1), 2 * (1 + 3 + 251));
        Due.due("SIZE of a worn one", x.ask(1, 0), -(40 + 2 * (1 + 3 + 251)));
        Due.due("MARK of a ramped one", x.ask(2, 1), 2 + 1 - 1000);
    }

    private static void theTraceStays() {
        GearRoad x = Due.bike(FIVE);
        x.ask(3, 0);
        Due.due("ask(5, 0)", x.ask(5, 0), BAD);
        Due.due("ask(-1, 0)", x.ask(-1, 0), BAD);
        Due.due("ask(0, 2)", x.ask(0, 2), BAD);
        Due.due("ask(0, -1)", x.ask(0, -1), BAD);
        x.ride();
        x.shift(1);
        Due.due("trace(0) stays", x.trace(0), 13);
        Due.due("trace(1) stays", x.trace(1), 10);
        Due.due("trace(2) stays", x.trace(2), NONE);
        Due.due("trace(most)", x.trace(Integer.MAX_VALUE), NONE);
        Due.due("trace(least)", x.trace(Integer.MIN_VALUE), NONE);
        Due.due("ask(0, 0) without a BIKE", new GearRoad().ask(0, 0), BAD);
    }

    private static void counts() {
        GearRoad x = Due.bike("b90;k20;k30;p40;r30;s1;s2;s3;");
        x.row(3, 0, 0);
        x.ride();
        x.front(1);
        x.shift(1);
        x.feed(0);
        int[] counts = {1, 2, 2, 3, 90, 7, 1, 207, 3, 1};
        for (int i = 0; i < counts.length; i++) Due.due("count(" + i + ")", x.count(i), counts[i]);
        Due.due("count(10)", x.count(10), BAD);
        Due.due("count(-1)", x.count(-1), BAD);
    }
}
