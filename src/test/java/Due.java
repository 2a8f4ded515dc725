/** What the tests share: it counts the answers that are not as due, and prints them. */
final class Due {
    private static int wrong = 0;
    private static int asked = 0;
    private static String sentence = "";

    private Due() {
    }

    /** The sentence of the document to which the answers behind it hold; promise 0 is "Terms". */
    static void says(int promise, String words) {
        Sentences.add(promise, words, asked);
        sentence = (promise == 0 ? "Terms" : "Promise " + promise) + ": " + words + "\n    ";
    }

    static void due(String call, long got, long want) {
        asked++;
        if (got == want) return;
        wrong++;
        if (wrong <= 50) System.out.println(sentence + call + " answered " + got + ", due is " + want);
    }

    static void due(String what, boolean holds) {
        due(what, holds ? 1 : 0, 1);
    }

    static int howManyAsked() {
        return asked;
    }

    /** Feeds a text, whose letters are bytes, and reads it: what bike() answered. */
    static int read(GearRoad x, String text) {
        for (int i = 0; i < text.length(); i++) {
            int size = x.feed(text.charAt(i));
            if (size != i + 1) due("feed of \"" + text + "\" at " + i, size, i + 1);
        }
        return x.bike();
    }

    /** A new object with the BIKE that a good text tells. */
    static GearRoad bike(String text) {
        GearRoad x = new GearRoad();
        int cogs = read(x, text);
        if (cogs <= 0) due("bike() of \"" + text + "\" is good", false);
        return x;
    }

    static void end() {
        System.out.println(wrong == 0 ? asked + " answers are as due" : wrong + " of " + asked + " answers are not as due");
        if (wrong != 0) System.exit(1);
    }
}
