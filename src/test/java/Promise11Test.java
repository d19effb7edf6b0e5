/** Promise 11: stays tells as which WORD of a LINE of NEW a WORD of a LINE of OLD STAYS. */
public final class Promise11Test {
    private Promise11Test() {
    }

    public static void main(String[] args) {
        Check.about("promise 11");
        leastCouples();
        firstToLast();
        lastOfFourteen();
        longAheadOfShort();
        unlikeLengths();
        noSuchWord();
        noSuchLines();
        Check.close();
    }

    private static void due(MovedLines x, int old, int k, int fresh, int want) {
        Check.due("stays(" + old + ", " + k + ", " + fresh + ")", x.stays(old, k, fresh), want);
    }

    private static void dueAll(String old, String fresh, int... want) {
        MovedLines x = Check.of(old, fresh);
        for (int k = 0; k < want.length; k++) {
            Check.due("stays(0, " + k + ", 0) of \"" + old + "\" and \"" + fresh + "\"", x.stays(0, k, 0), want[k]);
        }
        for (int k : Check.outside(want.length)) {
            due(x, 0, k, 0, -1);
        }
    }

    private static void leastCouples() {
        dueAll("a b;", "b a;", 1, -1);
        dueAll("a;", "b a a;", 1);
        dueAll("x a b;", "x b a;", 0, 2, -1);
        dueAll("b a b;", "a b;", -1, 0, 1);
        dueAll("a a b;", "a b;", 0, -1, 1);
        dueAll("a b a;", "a a;", 0, -1, 1);
        dueAll("a b c d;", "c d a b;", 2, 3, -1, -1);
        dueAll("a b c d;", "e f;", -1, -1, -1, -1);
        dueAll("q a b c;", "a b c q;", -1, 0, 1, 2);
        dueAll("a b;", "a c a b;", 0, 3);
        dueAll("a b a b;", "b a b a;", 1, 2, 3, -1);
    }

    private static void firstToLast() {
        dueAll("a b c d e f g h;", "a b c d e f g h;", 0, 1, 2, 3, 4, 5, 6, 7);
        dueAll("h;", "a b c d e f g h;", 7);
        dueAll("a b c d e f g h;", "h;", -1, -1, -1, -1, -1, -1, -1, 0);
        dueAll("a a a a a a a a;", "a;", 0, -1, -1, -1, -1, -1, -1, -1);
        dueAll("a;", "a a a a a a a a;", 0);
        dueAll("b c d e f g h a;", "a b c d e f g h;", 1, 2, 3, 4, 5, 6, 7, -1);
    }

    private static void lastOfFourteen() {
        MovedLines x = Check.of(Check.FOURTEEN.replace("n", "n o"), Check.FOURTEEN.replace("n", "p o"));
        due(x, 13, 0, 13, -1);
        due(x, 13, 1, 13, 1);
        due(x, 13, 2, 13, -1);
        due(x, 12, 0, 12, 0);
        due(x, 14, 0, 13, -1);
        due(x, 13, 1, 14, -1);
    }

    /** What was asked ahead of it does not count. */
    private static void longAheadOfShort() {
        MovedLines x = Check.of("a b c d e f g h;a b;b;", "a b c d e f g h;a b;b a;");
        for (int k = 0; k < 8; k++) {
            due(x, 0, k, 0, k);
            due(x, 1, k, 1, k < 2 ? k : -1);
            due(x, 1, k, 2, k == 0 ? 1 : -1);
            due(x, 2, k, 2, k == 0 ? 0 : -1);
            due(x, 0, k, 1, k < 2 ? k : -1);
        }
    }

    /** A LINE that the one EDITION has and the other has not. */
    private static void unlikeLengths() {
        MovedLines x = Check.of("a;b;c d;", "d e;");
        due(x, 2, 0, 0, -1);
        due(x, 2, 1, 0, 0);
        due(x, 0, 0, 2, -1);
        x = Check.of("d e;", "a;b;c d;");
        due(x, 0, 0, 2, 1);
        due(x, 0, 1, 2, -1);
        due(x, 2, 0, 0, -1);
    }

    private static void noSuchWord() {
        MovedLines x = Check.of("a b;c d e;", "c d e;a b;");
        due(x, 0, 2, 0, -1);
        due(x, 1, 2, 0, 2);
        due(x, 1, 3, 0, -1);
        for (int k : Check.outside(8)) {
            due(x, 0, k, 1, -1);
            due(x, 1, k, 0, -1);
            Picture.dueUnchanged("stays(0, " + k + ", 0)", y -> due(y, 0, k, 0, -1));
        }
    }

    private static void noSuchLines() {
        for (Scene scene : Scene.values()) {
            MovedLines x = scene.make();
            for (int line : Check.outside(x.now(0))) {
                due(x, line, 0, 0, -1);
            }
            for (int line : Check.outside(x.now(1))) {
                due(x, 0, 0, line, -1);
            }
        }
        for (int line : Check.outside(14)) {
            Picture.dueUnchanged("stays(" + line + ", 0, 0)", x -> due(x, line, 0, 0, -1));
            Picture.dueUnchanged("stays(0, 0, " + line + ")", x -> due(x, 0, 0, line, -1));
        }
        // what was asked of other lines ahead of it does not count
        MovedLines x = Check.of("a b;", "a b;");
        due(x, 0, 1, 0, 1);
        due(x, 1, 1, 0, -1);
        due(x, 0, 1, 1, -1);
    }
}
