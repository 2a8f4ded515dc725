/** Promises 6 to 8: feed, bike, fault. */
public final class TextsTest {
    private static final String GOOD = "b40;k30;k44;p12;w16;r20;o28;f32;s1;s4;s0;s7;";

    public static void main(String[] args) {
        feed();
        goodTexts();
        faultsOne();
        faultsTwo();
        faultsThree();
        whatABikeStandsFor();
        whatStays();
        Due.end();
    }

    private static void feed() {
        GearRoad x = new GearRoad();
        Due.due("feed(-1)", x.feed(-1), GearRoad.BAD);
        Due.due("feed(256)", x.feed(256), GearRoad.BAD);
        Due.due("feed(0)", x.feed(0), 1);
        Due.due("feed(255)", x.feed(255), 2);
        for (int n = 3; n <= 80; n++) Due.due("feed, n-th", x.feed('b'), n);
        Due.due("feed(98) on a full tape", x.feed(98), GearRoad.FULL);
        Due.due("feed(256) on a full tape", x.feed(256), GearRoad.BAD);
        Due.due("count(9)", x.count(9), 80);
        Due.due("bike()", x.bike(), -1000100);
        Due.due("count(9) behind bike()", x.count(9), 0);
        Due.due("feed behind bike()", x.feed(98), 1);
    }

    private static void goodTexts() {
        GearRoad x = new GearRoad();
        Due.due("bike()", Due.read(x, GOOD), 5);
        Due.due("fault()", x.fault(), 0);
        int[] counts = {0, 5, 2, 4, 40, 0, 0, 0, 0, 0};
        for (int i = 0; i < counts.length; i++) Due.due("count(" + i + ")", x.count(i), counts[i]);
        int[] teeth = {12, 16, 20, 28, 32};
        for (int i = 0; i < 5; i++) Due.due("cog", x.cog(i, 0), teeth[i]);
        for (int i = 0; i < 5; i++) Due.due("kind", x.kind(i), i + 1);
        Due.due("least numbers", Due.read(x, "b1;k20;p10;s0;"), 1);
        Due.due("most numbers", Due.read(x, "b99;k60;p40;s9;"), 1);
        Due.due("figures ahead", Due.read(x, "b09;k20;p10;s09;"), 1);
        Due.due("strength 09", x.count(4), 9);
        Due.due("slope 09", x.piece(0, 0), 9);
        Due.due("slope 00", Due.read(x, "b01;k20;p10;s00;"), 1);
        Due.due("the most of all", Due.read(x, "b99;k60;k60;k60;p40;p40;p40;p40;p40;p40;s9;s9;s9;s9;s9;s9;"), 6);
    }

    private static void faulty(String text, int place, int number) {
        GearRoad x = new GearRoad();
        Due.due("bike() of \"" + text + "\"", Due.read(x, text), -1000100 - place);
        Due.due("fault() of \"" + text + "\"", x.fault(), number);
        Due.due("count(9) behind a FAULT", x.count(9), 0);
        Due.due("count(1) behind a FAULT", x.count(1), 0);
        Due.due("about() behind a FAULT", x.about(), GearRoad.STATE);
    }

    private static void faultsOne() {
        faulty("", 0, 1);
        faulty("B40;", 0, 1);
        faulty(" b40;", 0, 1);
        faulty("b", 1, 1);
        faulty("bb", 1, 1);
        faulty("b;", 1, 1);
        faulty("b,", 1, 1);
        faulty("b4", 2, 1);
        faulty("b4 ;", 2, 1);
        faulty("b40,", 3, 1);
        faulty("b40;", 4, 1);
        faulty("b400;", 1, 1);
        faulty("b000;", 1, 1);
        faulty("b1234", 1, 1);
        faulty("b40;;", 4, 1);
        faulty("b40;b40;", 4, 1);
        faulty("b40;p12;", 4, 1);
        faulty("b40;s1;", 4, 1);
        faulty("b40;40", 4, 1);
        faulty("b40;400", 4, 1);
        faulty("b40;k30;s1;", 8, 1);
        faulty("b40;k30;z", 8, 1);
        faulty("b40;k300;", 5, 1);
        faulty("b40;k30;p12;k30;", 12, 1);
        faulty("b40;k30;p12;", 12, 1);
        faulty("b40;k30;p12;s", 13, 1);
        faulty("b40;k30;p12;s1", 14, 1);
        faulty("b40;k30;p12;s1;p12;", 15, 1);
        faulty("b40;k30;p12;s1;k30;", 15, 1);
        faulty("b40;k30;p12;s1;,", 15, 1);
        faulty("b40;k30;p12;s1;s", 16, 1);
        faulty("b40;k30;p12;s100;", 13, 1);
        faulty("b40;k30;p12;s1;" + (char) 233, 15, 1);
        faulty("b40;k30;p12;s1;" + (char) 0, 15, 1);
        faulty("b40;k3" + (char) 255, 5, 2);
    }

    private static void faultsTwo() {
        faulty("b0;", 1, 2);
        faulty("b00;", 1, 2);
        faulty("b0", 1, 2);
        faulty("b40;k19;", 5, 2);
        faulty("b40;k61;", 5, 2);
        faulty("b40;k2", 5, 2);
        faulty("b40;k30;k99z", 9, 2);
        for (String sort : new String[] {"p", "w", "r", "o", "f"}) {
            faulty("b40;k30;" + sort + "9;", 9, 2);
            faulty("b40;k30;" + sort + "41;", 9, 2);
        }
        faulty("b40;k30;p12;s10;", 13, 2);
        faulty("b40;k30;p12;s1;s99", 16, 2);
    }

    private static void faultsThree() {
        faulty("b40;k30;k30;k30;k30;", 16, 3);
        faulty("b40;k30;k30;k30;k", 16, 3);
        faulty("b40;k30;k30;k30;k99;", 16, 3);
        faulty("b40;k30;p12;p12;w12;r12;o12;f12;p12;", 32, 3);
        faulty("b40;k30;p12;p12;w12;r12;o12;f12;f", 32, 3);
        faulty("b40;k30;p12;p12;w12;r12;o12;f12;k", 32, 1);
        faulty("b40;k30;p12;s0;s0;s0;s0;s0;s0;s0;", 30, 3);
        faulty("b40;k30;p12;s0;s0;s0;s0;s0;s0;s10;", 30, 3);
        faulty("b40;k30;p12;s0;s0;s0;s0;s0;s0;p", 30, 1);
    }

    private static void whatABikeStandsFor() {
        GearRoad x = Due.bike(GOOD);
        x.shift(1);
        x.front(1);
        x.strength(99);
        x.ride();
        Due.due("acts", x.count(8), 4);
        Due.due("another BIKE", Due.read(x, "b50;k20;k40;p10;p20;s0;s0;"), 2);
        int[] counts = {0, 2, 2, 2, 50, 0, 0, 0, 0, 0};
        for (int i = 0; i < counts.length; i++) Due.due("anew count(" + i + ")", x.count(i), counts[i]);
        Due.due("anew turned on 0", x.cog(0, 1), 0);
        Due.due("anew turned on 1", x.cog(1, 1), 0);
        Due.due("anew undo()", x.undo(), GearRoad.STATE);
    }

    private static void whatStays() {
        GearRoad x = Due.bike(GOOD);
        x.shift(1);
        x.about();
        Due.due("a FAULT", Due.read(x, "b10;k20;p10;s0;s10;"), -1000116);
        Due.due("fault()", x.fault(), 2);
        int[] counts = {0, 5, 2, 4, 40, 1, 4, 3, 2, 0};
        for (int i = 0; i < counts.length; i++) Due.due("stays count(" + i + ")", x.count(i), counts[i]);
        Due.due("slope stays", x.piece(0, 0), 2);
        Due.due("kind stays", x.kind(4), 5);
        Due.due("undo() stays", x.undo(), 1);
        Due.due("a good text", Due.read(x, GOOD), 5);
        Due.due("fault() stays the latest one", x.fault(), 2);
        Due.due("another FAULT", Due.read(x, ""), -1000100);
        Due.due("fault() of it", x.fault(), 1);
    }
}
