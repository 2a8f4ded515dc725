/** What the tests share: it counts the answers that are not as due, and prints them. */
final class Due {
    private static int wrong = 0;
    private static int asked = 0;

    private Due() {
    }

    static void due(String call, long got, long want) {
        asked++;
        if (got == want) return;
        wrong++;
        if (wrong <= 50) System.out.println(call + " answered " + got + ", due is " + want);
    }

    static void due(String what, boolean holds) {
        due(what, holds ? 1 : 0, 1);
    }

    /** Feeds a text, whose letters are bytes, and reads it: what bike() answered. */
    static int read(GearRoad x, String text) {
        for (int i = 0; i < text.length(); i++) due("feed of \"" + text + "\" at " + i, x.feed(text.charAt(i)), i + 1);
        return x.bike();
    }

    /** A new object with the BIKE that a good text tells. */
    static GearRoad bike(String text) {
        GearRoad x = new GearRoad();
        due("bike() of \"" + text + "\"", read(x, text) > 0);
        return x;
    }

    static void end() {
        System.out.println(wrong == 0 ? asked + " answers are as due" : wrong + " of " + asked + " answers are not as due");
        if (wrong != 0) System.exit(1);
    }
}
