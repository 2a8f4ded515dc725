/** Promises 9 to 18: ride, shift, front, about, strength, slope, undo, cog, ring, piece. */
public final class ActsTest {
    private static final int BAD = GearRoad.BAD, STATE = GearRoad.STATE;

    public static void main(String[] args) {
        ride();
        turnedHasAMost();
        shift();
        shiftFromAFixedCog();
        front();
        about();
        strength();
        slope();
        undo();
        theOldestActIsForgotten();
        cogRingPiece();
        Due.end();
    }

    private static void ride() {
        GearRoad x = Due.bike("b40;k30;w16;s1;s0;s2;");
        Due.due("ride()", x.ride(), 67);
        Due.due("at", x.count(6), 1);
        Due.due("turned", x.count(7), 67);
        Due.due("turned on 0", x.cog(0, 1), 67);
        Due.due("acts", x.count(8), 1);
        Due.due("ride() again", x.ride(), 67);
        Due.due("turned again", x.count(7), 134);
        Due.due("ride() too heavy", x.ride(), STATE);
        Due.due("acts stay", x.count(8), 2);
        x.strength(56);
        Due.due("LOAD is STRENGTH", x.ride(), 67);
        Due.due("at THE END", x.count(6), 3);
        Due.due("ride() at THE END", x.ride(), STATE);
        Due.due("ride() without a BIKE", new GearRoad().ride(), STATE);
    }

    private static void turnedHasAMost() {
        GearRoad x = Due.bike("b99;k20;w40;s0;s0;s0;s0;s0;s0;");
        // 67 times 6 RIDES are more than the most; no more is asked for than an object's 512 calls.
        for (int i = 0; i < 67; i++) {
            for (int piece = 0; piece < 6; piece++) Due.due("ride", x.ride(), 251);
            x.about();
        }
        Due.due("turned", x.count(7), 99999);
        Due.due("turned on it", x.cog(0, 1), 99999);
        for (int i = 0; i < 7; i++) x.undo();
        Due.due("turned before the latest seven", x.count(7), 66 * 6 * 251);
    }

    private static void shift() {
        GearRoad x = Due.bike("b40;k30;p12;r16;o20;s1;");
        Due.due("shift(2)", x.shift(2), BAD);
        Due.due("shift(0)", x.shift(0), BAD);
        Due.due("shift(-1) below", x.shift(-1), STATE);
        Due.due("shift onto a ramped one", x.shift(1), 1);
        Due.due("turned on it", x.cog(1, 1), 1);
        Due.due("turned", x.count(7), 1);
        Due.due("shift onto an oval one", x.shift(1), 2);
        Due.due("turned on that", x.cog(2, 1), 3);
        Due.due("turned then", x.count(7), 4);
        Due.due("shift(1) above", x.shift(1), STATE);
        Due.due("gear", x.count(5), 2);
        Due.due("back onto the ramped one", x.shift(-1), 1);
        Due.due("turned on it then", x.cog(1, 1), 2);
        Due.due("acts", x.count(8), 3);
        Due.due("shift(7) without a BIKE", new GearRoad().shift(7), STATE);
    }

    private static void shiftFromAFixedCog() {
        GearRoad x = Due.bike("b99;k20;f40;p40;s0;s0;s0;");
        Due.due("leave at 0", x.shift(1), 1);
        x.shift(-1);
        Due.due("may be left at 0", x.cog(0, 3), 1);
        x.ride();
        Due.due("leave at 1", x.shift(1), STATE);
        Due.due("may be left at 1", x.cog(0, 3), 0);
        Due.due("a plain one may be left at 1", x.cog(1, 3), 1);
        Due.due("BAD ahead of that", x.shift(3), BAD);
        x.ride();
        Due.due("leave at 2", x.shift(1), 1);
        x.shift(-1);
        x.ride();
        Due.due("leave at THE END, 3", x.shift(1), STATE);
        Due.due("may be left at THE END", x.cog(0, 3), 0);
        GearRoad even = Due.bike("b99;k20;f40;p40;s0;s0;");
        even.ride();
        even.ride();
        Due.due("leave at THE END, 2", even.shift(1), 1);
        GearRoad onto = Due.bike("b99;k20;k30;p40;f40;s0;s0;");
        onto.ride();
        Due.due("onto a fixed one at 1", onto.shift(1), 1);
        Due.due("a RING beside from it", onto.front(1), 1);
    }

    private static void front() {
        GearRoad x = Due.bike("b40;k30;k40;k50;p12;s1;");
        Due.due("front(-1) below", x.front(-1), STATE);
        Due.due("front(2)", x.front(2), BAD);
        Due.due("front(0)", x.front(0), BAD);
        Due.due("front(1)", x.front(1), 1);
        Due.due("front(1) again", x.front(1), 2);
        Due.due("front(1) above", x.front(1), STATE);
        Due.due("gear", x.count(5), 12);
        Due.due("turned", x.count(7), 10);
        Due.due("turned on no COG", x.cog(0, 1), 0);
        Due.due("front(-1)", x.front(-1), 1);
        Due.due("front(7) without a BIKE", new GearRoad().front(7), STATE);
    }

    private static void about() {
        GearRoad x = Due.bike("b99;k20;p40;s1;s2;s3;");
        Due.due("about() at 0", x.about(), 3);
        int[] slopes = {6, 7, 8};
        for (int i = 0; i < 3; i++) Due.due("slope about", x.piece(i, 0), slopes[i]);
        Due.due("about() at THE END", x.about(), 0);
        for (int i = 0; i < 3; i++) Due.due("slope again", x.piece(i, 0), i + 1);
        x.ride();
        Due.due("about() at 1", x.about(), 2);
        Due.due("turned stays", x.count(7), 201);
        GearRoad four = Due.bike("b99;k20;p40;s1;s2;s3;s9;");
        four.about();
        int[] of = {0, 6, 7, 8};
        for (int i = 0; i < 4; i++) Due.due("slope of four", four.piece(i, 0), of[i]);
        Due.due("about() without a BIKE", new GearRoad().about(), STATE);
    }

    private static void strength() {
        GearRoad x = Due.bike("b40;k30;p12;s1;");
        Due.due("strength(99)", x.strength(99), 40);
        Due.due("strength(1)", x.strength(1), 99);
        Due.due("strength(0)", x.strength(0), BAD);
        Due.due("strength(100)", x.strength(100), BAD);
        Due.due("strength is", x.count(4), 1);
        Due.due("acts", x.count(8), 2);
        Due.due("strength as it is", x.strength(1), 1);
        Due.due("acts with that", x.count(8), 3);
        Due.due("strength(0) without a BIKE", new GearRoad().strength(0), STATE);
    }

    private static void slope() {
        GearRoad x = Due.bike("b40;k30;p12;s1;s5;");
        Due.due("slope(1, 9)", x.slope(1, 9), 5);
        Due.due("slope(1, 0)", x.slope(1, 0), 9);
        Due.due("slope is", x.piece(1, 0), 0);
        Due.due("the other is", x.piece(0, 0), 1);
        Due.due("slope(2, 0)", x.slope(2, 0), BAD);
        Due.due("slope(-1, 0)", x.slope(-1, 0), BAD);
        Due.due("slope(0, -1)", x.slope(0, -1), BAD);
        Due.due("slope(0, 10)", x.slope(0, 10), BAD);
        Due.due("acts", x.count(8), 2);
        Due.due("slope without a BIKE", new GearRoad().slope(0, 0), BAD);
    }

    private static void undo() {
        GearRoad x = Due.bike("b90;k20;k30;p40;r30;s1;s2;s3;");
        x.ride();
        x.shift(1);
        x.front(1);
        x.about();
        x.strength(7);
        x.slope(0, 4);
        Due.due("undo a SLOPE", x.undo(), 5);
        Due.due("slope is", x.piece(0, 0), 6);
        Due.due("undo STRENGTH", x.undo(), 4);
        Due.due("strength is", x.count(4), 90);
        Due.due("undo ABOUT", x.undo(), 3);
        for (int i = 0; i < 3; i++) Due.due("slopes are", x.piece(i, 0), i + 1);
        Due.due("at", x.count(6), 1);
        Due.due("undo a RING", x.undo(), 2);
        Due.due("turned without the RING", x.count(7), 202);
        Due.due("gear without the RING", x.count(5), 1);
        Due.due("undo a COG", x.undo(), 1);
        Due.due("turned without the COG", x.count(7), 201);
        Due.due("turned on it", x.cog(1, 1), 0);
        Due.due("undo a RIDE", x.undo(), 0);
        Due.due("turned without the RIDE", x.count(7), 0);
        Due.due("turned on 0", x.cog(0, 1), 0);
        Due.due("at 0", x.count(6), 0);
        Due.due("undo none", x.undo(), STATE);
    }

    private static void theOldestActIsForgotten() {
        GearRoad x = Due.bike("b90;k20;p40;s1;");
        for (int i = 1; i <= 30; i++) x.strength(i);
        Due.due("acts", x.count(8), 24);
        for (int i = 23; i >= 0; i--) Due.due("undo", x.undo(), i);
        Due.due("strength of the oldest kept", x.count(4), 6);
        Due.due("undo what is forgotten", x.undo(), STATE);
    }

    private static void cogRingPiece() {
        GearRoad x = Due.bike("b40;k30;k44;p12;w16;r20;o28;f32;s1;s4;s0;s7;");
        int[] onto = {3, 3, 1, 3, 3};
        for (int i = 0; i < 5; i++) Due.due("turns onto", x.cog(i, 2), onto[i]);
        Due.due("cog(5, 0)", x.cog(5, 0), BAD);
        Due.due("cog(-1, 0)", x.cog(-1, 0), BAD);
        Due.due("cog(0, 4)", x.cog(0, 4), BAD);
        Due.due("cog(0, -1)", x.cog(0, -1), BAD);
        Due.due("ring(0)", x.ring(0), 30);
        Due.due("ring(1)", x.ring(1), 44);
        Due.due("ring(2)", x.ring(2), BAD);
        Due.due("ring(-1)", x.ring(-1), BAD);
        int[] bears = {1566, 0, 2015, 0};
        int[] load = {50, 125, 25, 200};
        for (int i = 0; i < 4; i++) Due.due("bears", x.piece(i, 1), bears[i]);
        for (int i = 0; i < 4; i++) Due.due("load", x.piece(i, 2), load[i]);
        x.front(1);
        Due.due("load of another GEAR", x.piece(0, 2), 73);
        Due.due("piece(4, 0)", x.piece(4, 0), BAD);
        Due.due("piece(-1, 0)", x.piece(-1, 0), BAD);
        Due.due("piece(0, 3)", x.piece(0, 3), BAD);
        Due.due("piece(0, -1)", x.piece(0, -1), BAD);
    }
}
