/** TEXTS and FAULTS: the rest of part 1 of "Terms", promises 6 to 8. */
final class TextsEdges {
    private static final int BAD = GearRoad.BAD, STATE = GearRoad.STATE, FULL = GearRoad.FULL;
    private static final int LEAST = Integer.MIN_VALUE, MOST = Integer.MAX_VALUE;
    private static final String GOOD = "b9;k20;p10;s0;";

    private TextsEdges() {
    }

    static void all() {
        theTape();
        tokens();
        grammar();
        law();
        rings();
        cogs();
        pieces();
        inPlaceOfTheOneBefore();
        theFirstToken();
        theLeastOfOneToken();
        cannotStandThere();
        threeFigures();
        theEnd();
        notAsTold();
        noRoom();
        feed();
        feedRefused();
        bike();
        allStays();
        fault();
    }

    private static GearRoad good(String text, int cogs) {
        GearRoad x = new GearRoad();
        Due.due("bike() of \"" + text + "\"", Due.read(x, text), cogs);
        Due.due("fault() of \"" + text + "\"", x.fault(), 0);
        return x;
    }

    private static void faulty(String text, int place, int number) {
        GearRoad x = new GearRoad();
        Due.due("bike() of \"" + text + "\"", Due.read(x, text), -1000100 - place);
        Due.due("fault() of \"" + text + "\"", x.fault(), number);
        Due.due("no BIKE by \"" + text + "\"", x.about(), STATE);
    }

    private static String times(int n, String part) {
        return part.repeat(n);
    }

    private static void theTape() {
        Due.says(0, "TEXTS: THE TAPE has at most 80 bytes, that come one by one;");
        GearRoad x = new GearRoad();
        for (int n = 1; n <= 79; n++) x.feed('z');
        Due.due("count(9) one below", x.count(9), 79);
        Due.due("the 80th", x.feed('z'), 80);
        Due.due("the 81st", x.feed('z'), FULL);
        Due.due("the 82nd", x.feed('z'), FULL);
        Due.due("count(9)", x.count(9), 80);
        Due.due("bike()", x.bike(), -1000100);
        // "the most" has 64 bytes; 16 more fill the tape, and are read: the first of them cannot stand there.
        String most = "b99;" + times(3, "k60;") + times(6, "p40;") + times(6, "s09;");
        Due.due("bytes of the longest BIKE", most.length(), 64);
        for (int more = 0; more <= 16; more++) {
            for (int i = 0; i < most.length(); i++) x.feed(most.charAt(i));
            for (int i = 0; i < more; i++) x.feed(';');
            Due.due("count(9) with " + more, x.count(9), 64 + more);
            if (more == 16) Due.due("one more", x.feed(';'), FULL);
            Due.due("bike() with " + more, x.bike(), more == 0 ? 6 : -1000164);
            x = new GearRoad();
        }
    }

    private static void tokens() {
        Due.says(0, "TOKENS: letters a to z (each by itself), NUMBERS (figures, 2 at most), SIGNS , and ; nothing else, no blanks.");
        good(GOOD, 1);
        for (int letter = 0; letter <= 255; letter++) {
            if (letter != 'b') faulty((char) letter + "9;k20;p10;s0;", 0, 1);
            if (letter != 's') faulty(GOOD + (char) letter, 14, 1);
            if (letter != ';' && (letter < '0' || letter > '9')) faulty("b9" + (char) letter, 2, 1);
        }
        // The bytes beside the figures and beside ; are none of them.
        int[] nones = {0, ' ', '\t', '\n', '+', '-', '.', '/', ':', '<', '@', 'B', 'K', 'P', 'S', 'Z', '[', '`', '{', 127, 128, 178, 255};
        for (int none : nones) {
            char c = (char) none;
            faulty(c + GOOD, 0, 1);
            faulty("b" + c + "9;k20;p10;s0;", 1, 1);
            faulty("b9" + c + ";k20;p10;s0;", 2, 1);
            faulty("b9" + c + "k20;p10;s0;", 2, 1);
            faulty("b9;" + c + "k20;p10;s0;", 3, 1);
            faulty("b9;k2" + c + ";p10;s0;", 4, 2);
            faulty(GOOD + c, 14, 1);
        }
        faulty("bb9;k20;p10;s0;", 1, 1);
        faulty("b9;kk20;p10;s0;", 4, 1);
        faulty("b9,k20;p10;s0;", 2, 1);
        good("b99;k60;p40;s9;", 1);
        good("b09;k20;p10;s09;", 1);
        faulty("b009;k20;p10;s0;", 1, 1);
    }

    private static void grammar() {
        Due.says(0, "bike: law ring { ring } cog { cog } piece { piece }.");
        good("b9;k20;p10;s0;", 1);
        good("b9;k20;k21;p10;w11;s0;s1;", 2);
        faulty("k20;p10;s0;", 0, 1);
        faulty("b9;p10;s0;", 3, 1);
        faulty("b9;k20;s0;", 7, 1);
        faulty("b9;k20;p10;", 11, 1);
        faulty("b9;b9;k20;p10;s0;", 3, 1);
        faulty("b9;k20;b9;p10;s0;", 7, 1);
        faulty("b9;k20;p10;k20;s0;", 11, 1);
        faulty("b9;k20;p10;b9;s0;", 11, 1);
        faulty("b9;k20;p10;s0;p10;", 14, 1);
        faulty("b9;k20;p10;s0;k20;", 14, 1);
        faulty("b9;k20;p10;s0;b9;", 14, 1);
        faulty("b9;s0;p10;k20;", 3, 1);
    }

    private static void law() {
        Due.says(0, "law: b STRENGTH ; (1 to 99).");
        faulty("b0;k20;p10;s0;", 1, 2);
        faulty("b00;k20;p10;s0;", 1, 2);
        faulty("b100;k20;p10;s0;", 1, 1);
        for (int v : new int[] {1, 2, 9, 10, 11, 98, 99}) {
            Due.due("count(4) of " + v, good("b" + v + ";k20;p10;s0;", 1).count(4), v);
        }
        Due.due("count(4) of 01", good("b01;k20;p10;s0;", 1).count(4), 1);
        faulty("b;k20;p10;s0;", 1, 1);
        faulty("b9k20;p10;s0;", 2, 1);
    }

    private static void rings() {
        Due.says(0, "ring: k TEETH ; (20 to 60; RINGS 0 .. 2, 3 at most).");
        for (int teeth : new int[] {0, 2, 9, 19, 61, 99}) faulty("b9;k" + teeth + ";p10;s0;", 4, 2);
        for (int teeth : new int[] {20, 21, 59, 60}) Due.due("ring(0)", good("b9;k" + teeth + ";p10;s0;", 1).ring(0), teeth);
        for (int n = 1; n <= 3; n++) {
            GearRoad x = good("b9;" + times(n - 1, "k20;") + "k60;p10;s0;", 1);
            Due.due("count(2) of " + n, x.count(2), n);
            for (int ring = 0; ring <= 3; ring++) Due.due("ring(" + ring + ")", x.ring(ring), ring >= n ? BAD : ring == n - 1 ? 60 : 20);
        }
        faulty("b9;" + times(4, "k20;") + "p10;s0;", 15, 3);
        faulty("b9;k20;k19;p10;s0;", 8, 2);
        faulty("b9;k20;k20;k61;p10;s0;", 12, 2);
    }

    private static void cogs() {
        Due.says(0, "cog: SORT TEETH ; (SORT: p a plain one, w a worn one, r a ramped one, o an oval one, f a fixed one; 10 to 40; "
            + "COGS 0 .. 5, 6 at most).");
        String sorts = "pwrof";
        for (int c = 'a'; c <= 'z'; c++) {
            int kind = sorts.indexOf(c) + 1;
            String text = "b9;k20;" + (char) c + "10;s0;";
            if (kind > 0) Due.due("kind(0) of " + text, good(text, 1).kind(0), kind);
            else faulty(text, c == 'k' ? 8 : 7, c == 'k' ? 2 : 1);
        }
        for (int i = 0; i < 5; i++) {
            String head = "b9;k20;" + sorts.charAt(i);
            for (int teeth : new int[] {0, 1, 9, 41, 99}) faulty(head + teeth + ";s0;", 8, 2);
            for (int teeth : new int[] {10, 11, 39, 40}) Due.due("cog(0, 0)", good(head + teeth + ";s0;", 1).cog(0, 0), teeth);
        }
        for (int n = 1; n <= 6; n++) {
            GearRoad x = good("b9;k20;" + times(n - 1, "p10;") + "f40;s0;", n);
            Due.due("count(1)", x.count(1), n);
            for (int cog = 0; cog <= 6; cog++) Due.due("kind(" + cog + ")", x.kind(cog), cog >= n ? BAD : cog == n - 1 ? 5 : 1);
        }
        for (int i = 0; i < 5; i++) faulty("b9;k20;" + times(6, "p10;") + sorts.charAt(i) + "10;s0;", 31, 3);
        faulty("b9;k20;" + times(5, "p10;") + "p41;s0;", 28, 2);
    }

    private static void pieces() {
        Due.says(0, "piece: s SLOPE ; (0 to 9; PIECES 0 .. 5, 6 at most).");
        for (int slope = 0; slope <= 9; slope++) {
            Due.due("piece(0, 0)", good("b9;k20;p10;s" + slope + ";", 1).piece(0, 0), slope);
            Due.due("piece(0, 0)", good("b9;k20;p10;s0" + slope + ";", 1).piece(0, 0), slope);
        }
        faulty("b9;k20;p10;s10;", 12, 2);
        faulty("b9;k20;p10;s99;", 12, 2);
        faulty("b9;k20;p10;s;", 12, 1);
        for (int n = 1; n <= 6; n++) {
            GearRoad x = good("b9;k20;p10;" + times(n - 1, "s0;") + "s9;", 1);
            Due.due("count(3)", x.count(3), n);
            for (int piece = 0; piece <= 6; piece++) Due.due("piece(" + piece + ", 0)", x.piece(piece, 0), piece >= n ? BAD : piece == n - 1 ? 9 : 0);
        }
        faulty("b9;k20;p10;" + times(7, "s0;"), 29, 3);
        faulty("b9;k20;p10;" + times(5, "s0;") + "s10;", 27, 2);
    }

    private static void inPlaceOfTheOneBefore() {
        Due.says(0, "A BIKE that is read stands in place of the one before (none at first): RING 0, COG 0, at PIECE 0, nothing was TURNED; "
            + "no ACT can be undone.");
        Due.due("none at first", new GearRoad().about(), STATE);
        GearRoad x = Due.bike("b99;k20;k30;k40;p10;w20;r30;o40;f40;p11;s1;s2;s3;s4;s5;s6;");
        x.front(1);
        x.front(1);
        for (int i = 0; i < 5; i++) x.shift(1);
        x.ride();
        x.slope(0, 9);
        x.strength(98);
        Due.due("ACTS ahead", x.count(8), 10);
        Due.due("a smaller one", Due.read(x, "b8;k21;o12;s7;"), 1);
        int[] counts = {0, 1, 1, 1, 8, 0, 0, 0, 0, 0};
        for (int i = 0; i < counts.length; i++) Due.due("count(" + i + ")", x.count(i), counts[i]);
        Due.due("RING 0", x.ring(0), 21);
        Due.due("RING 1", x.ring(1), BAD);
        Due.due("COG 0", x.cog(0, 0), 12);
        Due.due("TURNED on it", x.cog(0, 1), 0);
        Due.due("KIND", x.kind(0), 4);
        Due.due("COG 1", x.cog(1, 0), BAD);
        Due.due("PIECE 0", x.piece(0, 0), 7);
        Due.due("PIECE 1", x.piece(1, 0), BAD);
        Due.due("undo()", x.undo(), STATE);
        Due.due("the larger one again", Due.read(x, "b99;k20;k30;k40;p10;w20;r30;o40;f40;p11;s1;s2;s3;s4;s5;s6;"), 6);
        for (int cog = 0; cog < 6; cog++) Due.due("TURNED on " + cog, x.cog(cog, 1), 0);
        for (int piece = 0; piece < 6; piece++) Due.due("SLOPE of " + piece, x.piece(piece, 0), piece + 1);
        Due.due("undo() of that one", x.undo(), STATE);
        behindForetoldRides();
    }

    /** Whatever was foretold of the one before, the new one begins at first. */
    private static void behindForetoldRides() {
        GearRoad x = Due.bike("b99;k20;k21;k22;r20;r20;r20;s0;s0;s0;");
        x.ride();
        x.front(1);
        x.shift(1);
        for (int seed = 1; seed <= 12; seed++) x.drawn(5, seed, 0);
        // By 1 the first step is a RIDE alone: it ends on RING 1, COG 1, at PIECE 2.
        x.drawn(1, 1, 0);
        Due.due("another", Due.read(x, "b8;k21;k22;k23;o12;o12;o12;s7;s7;s7;s7;s7;s7;"), 3);
        for (int i = 5; i <= 8; i++) Due.due("count(" + i + ")", x.count(i), 0);
        for (int cog = 0; cog < 3; cog++) Due.due("TURNED on " + cog, x.cog(cog, 1), 0);
        for (int piece = 0; piece < 6; piece++) Due.due("SLOPE of " + piece, x.piece(piece, 0), 7);
    }

    private static void theFirstToken() {
        Due.says(0, "FAULTS, the first TOKEN that has one (its first byte),");
        faulty("b0;k19;p9;s10;", 1, 2);
        faulty("b9;k19;p9;s10;", 4, 2);
        faulty("b9;k20;p09;s10;", 8, 2);
        faulty("b9;k20;p10;s10;;", 12, 2);
        faulty("b9;k20;p10;s00;;", 15, 1);
        faulty("b9;k61 ;", 4, 2);
        faulty("b9;k60 ;k61", 6, 1);
        faulty("b9;" + times(4, "k20;") + "?", 15, 3);
        faulty("b9;" + times(3, "k20;") + "?k20;", 15, 1);
        faulty("b9;" + times(2, "k20;") + "k99;k20;", 12, 2);
        faulty("b9;k20;" + times(6, "p10;") + "p", 31, 3);
        faulty("b9;k20;p10;" + times(6, "s0;") + "s", 29, 3);
    }

    private static void theLeastOfOneToken() {
        Due.says(0, "of one TOKEN the least:");
        // It cannot stand there, and would be one more than there is room for, or a NUMBER that is not as told.
        faulty("b9;" + times(3, "k20;") + "p10;k20;", 19, 1);
        faulty("b9;k20;" + times(6, "p10;") + "s0;p10;", 34, 1);
        faulty("b9;k20;" + times(6, "p10;") + "s0;f10;", 34, 1);
        faulty("b999;", 1, 1);
        faulty("b000;", 1, 1);
        faulty("b9;k999;", 4, 1);
        faulty("b9;k20;p100;", 8, 1);
        faulty("b9;k20;p10;s100;", 12, 1);
        faulty("0", 0, 1);
        faulty("b9;0;", 3, 1);
        faulty("b9;k20;0;", 7, 1);
        faulty("b9;k20;p10;10;", 11, 1);
    }

    private static void cannotStandThere() {
        Due.says(0, "1 it cannot stand there, or is none");
        String[] tokens = {"b", "9", ";", "k", "20", ";", "p", "10", ";", "s", "0", ";"};
        String[] others = {"b", "k", "p", "w", "r", "o", "f", "s", "a", "z", "7", ",", ";", "?", " "};
        String ahead = "";
        for (String token : tokens) {
            for (String other : others) {
                if (mayStand(token, other)) continue;
                faulty(ahead + other, ahead.length(), 1);
                faulty(ahead + other + ";k20;p10;s0;", ahead.length(), 1);
            }
            ahead += token;
        }
        for (String other : others) {
            if (!other.equals("s")) faulty(ahead + other, 14, 1);
        }
    }

    /** Whether another token may stand in place of one of GOOD's; 7 behind k and p is a NUMBER, but not as told. */
    private static boolean mayStand(String token, String other) {
        boolean figures = Character.isDigit(token.charAt(0));
        if (figures) return other.equals("7");
        if (token.equals("p")) return "kpwrof".contains(other);
        if (token.equals("s")) return "pwrofs".contains(other);
        // A figure behind a figure would be one NUMBER with it.
        return token.equals(other) || token.equals(";") && other.equals("7");
    }

    private static void threeFigures() {
        Due.says(0, "(a run of three figures, at its first;");
        good("b1;k20;p10;s0;", 1);
        good("b01;k20;p10;s0;", 1);
        faulty("b001;k20;p10;s0;", 1, 1);
        faulty("b0001;k20;p10;s0;", 1, 1);
        faulty("b9;k020;p10;s0;", 4, 1);
        faulty("b9;k20;p010;s0;", 8, 1);
        faulty("b9;k20;p10;s000;", 12, 1);
        faulty("b9;k20;p10;s00;s001;", 16, 1);
        faulty("b123", 1, 1);
        faulty("b" + times(79, "0"), 1, 1);
        faulty(times(80, "9"), 0, 1);
        faulty("b9;k20;p10;s0;123", 14, 1);
    }

    private static void theEnd() {
        Due.says(0, "the end: how many bytes there are);");
        faulty("", 0, 1);
        String text = "b9;k20;p10;s0;s1;";
        for (int n = 0; n <= text.length(); n++) {
            String part = text.substring(0, n);
            if (n == 14 || n == 17) good(part, 1);
            else if (n == 5 || n == 9) faulty(part, n - 1, 2);
            else faulty(part, n, 1);
        }
    }

    private static void notAsTold() {
        Due.says(0, "2 a NUMBER that is not as told;");
        String[] heads = {"b", "b9;k", "b9;k20;p", "b9;k20;w", "b9;k20;r", "b9;k20;o", "b9;k20;f", "b9;k20;p10;s"};
        int[] least = {1, 20, 10, 10, 10, 10, 10, 0};
        int[] most = {99, 60, 40, 40, 40, 40, 40, 9};
        for (int i = 0; i < heads.length; i++) {
            for (int v = 0; v <= 99; v++) {
                boolean told = v >= least[i] && v <= most[i];
                String text = heads[i] + v;
                faulty(text, told ? text.length() : heads[i].length(), told ? 1 : 2);
            }
        }
    }

    private static void noRoom() {
        Due.says(0, "3 a ring, a cog, a piece more than there is room for (its letter).");
        for (String behind : new String[] {"", "20;", "99;", "?", "123"}) {
            faulty("b9;" + times(3, "k20;") + "k" + behind, 15, 3);
            faulty("b9;k20;" + times(6, "p10;") + "p" + behind, 31, 3);
            faulty("b9;k20;p10;" + times(6, "s0;") + "s" + behind, 29, 3);
        }
        faulty("b9;" + times(3, "k20;"), 15, 1);
        faulty("b9;k20;" + times(6, "p10;"), 31, 1);
        good("b9;k20;p10;" + times(6, "s0;"), 1);
        faulty("b9;" + times(2, "k20;") + "k", 12, 1);
        faulty("b9;k20;" + times(5, "p10;") + "p", 28, 1);
        faulty("b9;k20;p10;" + times(5, "s0;") + "s", 27, 1);
    }

    private static void feed() {
        Due.says(6, "A byte (0 to 255) comes behind the tape: how many it has.");
        GearRoad x = new GearRoad();
        int[] letters = {0, 1, 98, 254, 255};
        for (int i = 0; i < letters.length; i++) {
            Due.due("feed(" + letters[i] + ")", x.feed(letters[i]), i + 1);
            Due.due("count(9)", x.count(9), i + 1);
        }
        GearRoad order = new GearRoad();
        for (int i = 0; i < GOOD.length(); i++) Due.due("feed", order.feed(GOOD.charAt(i)), i + 1);
        Due.due("bike()", order.bike(), 1);
        Due.due("feed behind bike()", order.feed('b'), 1);
    }

    private static void feedRefused() {
        Due.says(6, "BAD; FULL.");
        GearRoad x = new GearRoad();
        for (int letter : new int[] {LEAST, -1, 256, 354, MOST}) Due.due("feed(" + letter + ")", x.feed(letter), BAD);
        Due.due("count(9)", x.count(9), 0);
        for (int n = 1; n <= 80; n++) Due.due("feed", x.feed('b'), n);
        Due.due("the 81st", x.feed(0), FULL);
        Due.due("the 81st", x.feed(255), FULL);
        Due.due("BAD ahead of FULL", x.feed(256), BAD);
        Due.due("BAD ahead of FULL", x.feed(-1), BAD);
        Due.due("count(9) of a full one", x.count(9), 80);
        Due.due("bike()", x.bike(), -1000101);
        Due.due("room again", x.feed('b'), 1);
    }

    private static void bike() {
        Due.says(7, "The tape, empty then, is read: how many COGS there are.");
        for (int n = 1; n <= 6; n++) {
            GearRoad x = new GearRoad();
            Due.due("bike() of " + n, Due.read(x, "b9;k20;" + times(n, "p10;") + "s0;"), n);
            Due.due("count(9)", x.count(9), 0);
            Due.due("bike() of the empty tape", x.bike(), -1000100);
            Due.due("the BIKE stays", x.count(1), n);
        }
        GearRoad x = new GearRoad();
        Due.due("bike() of half a text", Due.read(x, "b9;k20;"), -1000107);
        Due.due("count(9) behind a FAULT", x.count(9), 0);
        Due.due("bike() of the other half", Due.read(x, "p10;s0;"), -1000100);
    }

    private static void allStays() {
        Due.says(7, "-1000100 less the place of a FAULT: all stays.");
        String history = "b99;k20;k30;f10;p20;s1;s2;s3;";
        for (String text : new String[] {"", "b", "b0;", "b5;k50;p30;s9;s9;s9;s9;s9;s9;s9;", "b5;k50;w30;r20;o10;f40;s9;s10;"}) {
            GearRoad x = Due.bike(history);
            GearRoad twin = Due.bike(history);
            for (GearRoad each : new GearRoad[] {x, twin}) {
                each.ride();
                each.front(1);
                each.image(1);
                each.about();
                each.row(2, 1, 3);
                each.ask(1, 0);
            }
            Due.due("a FAULT", Due.read(x, text) <= -1000100);
            Twins.same("behind \"" + text + "\"", x, twin);
        }
    }

    private static void fault() {
        Due.says(8, "The number of the latest FAULT; 0 before one.");
        GearRoad x = new GearRoad();
        Due.due("fault() at first", x.fault(), 0);
        Due.read(x, GOOD);
        Due.due("fault() behind a good text", x.fault(), 0);
        Due.read(x, "b9;k20;p10;" + times(7, "s0;"));
        Due.due("fault() 3", x.fault(), 3);
        Due.due("fault() again", x.fault(), 3);
        Due.read(x, GOOD);
        Due.due("fault() stays behind a good text", x.fault(), 3);
        Due.read(x, "b0;");
        Due.due("fault() 2", x.fault(), 2);
        Due.read(x, "");
        Due.due("fault() 1", x.fault(), 1);
        x.ride();
        x.undo();
        Due.due("fault() stays behind calls", x.fault(), 1);
    }
}
