/** Promise 15: would tells how many LINES would be otherwise, were one like another. */
public final class Promise15Test {
    private Promise15Test() {
    }

    public static void main(String[] args) {
        Check.about("promise 15");
        ordinary();
        mostLines();
        anotherBlockAlone();
        lastOfFourteen();
        noSuchLines();
        emptyEditions();
        Check.close();
    }

    private static void due(MovedLines x, int which, int one, int other, int want) {
        Check.due("would(" + which + ", " + one + ", " + other + ")", x.would(which, one, other), want);
    }

    private static void ordinary() {
        MovedLines x = Check.of("a;b;", "a;c;");
        due(x, 0, 1, 1, 2);
        due(x, 1, 1, 1, 2);
        due(x, 0, 0, 0, 0);
        due(x, 1, 1, 0, 0);
        Check.dueWays(x, "K0 -", "K0 -");
        // the line that is kept would be kept with another one
        x = Check.of("b;", "c;b;");
        due(x, 1, 0, 0, 3);
        due(x, 0, 0, 0, 3);
    }

    private static void mostLines() {
        MovedLines x = Check.of("x;".repeat(13) + "y z;", "y q;" + "x;".repeat(13));
        Check.dueWays(x, "M1 M2 M3 M4 M5 M6 M7 M8 M9 M10 M11 M12 M13 E0", "E13 M0 M1 M2 M3 M4 M5 M6 M7 M8 M9 M10 M11 M12");
        due(x, 1, 0, 0, 28);
        due(x, 1, 0, 13, 2);
        due(x, 1, 1, 0, 0);
        Check.dueWays(x, "M1 M2 M3 M4 M5 M6 M7 M8 M9 M10 M11 M12 M13 E0", "E13 M0 M1 M2 M3 M4 M5 M6 M7 M8 M9 M10 M11 M12");
    }

    /** The BLOCK is neither how a LINE is nor with which one: its number alone does not count. */
    private static void anotherBlockAlone() {
        MovedLines x = Check.of("a;a;p;b;b;q;", "r;b;b;s;a;a;");
        Check.dueWays(x, "M4 M5 - M1 M2 -", "- M3 M4 - M0 M1");
        Check.due("line(0, 3, 3)", x.line(0, 3, 3), 1);
        due(x, 1, 4, 2, 5);
        MovedLines y = Check.of("a;a;p;b;b;q;", "r;b;b;s;p;a;");
        Check.due("line(0, 3, 3), were it so", y.line(0, 3, 3), 0);
        Check.dueWays(y, "M5 - K4 M1 M2 -", "- M3 M4 - K2 M0");
    }

    private static void lastOfFourteen() {
        MovedLines x = Check.of(Check.FOURTEEN, Check.FOURTEEN);
        due(x, 0, 13, 13, 0);
        due(x, 1, 13, 13, 0);
        due(x, 0, 13, 0, 2);
        due(x, 1, 0, 13, 2);
        due(x, 0, 14, 13, -1);
        due(x, 1, 14, 13, -1);
        due(x, 0, 13, 14, -1);
        due(x, 1, 13, 14, -1);
    }

    private static void noSuchLines() {
        for (Scene scene : Scene.values()) {
            MovedLines x = scene.make();
            for (int which = 0; which < 2; which++) {
                for (int line : Check.outside(x.now(which))) {
                    due(x, which, line, 0, -1);
                }
                for (int line : Check.outside(x.now(1 - which))) {
                    due(x, which, 0, line, -1);
                }
            }
            for (int which : Check.outside(2)) {
                due(x, which, 0, 0, -1);
            }
        }
        for (int line : Check.outside(14)) {
            Picture.dueUnchanged("would(0, " + line + ", 0)", x -> due(x, 0, line, 0, -1));
            Picture.dueUnchanged("would(1, 0, " + line + ")", x -> due(x, 1, 0, line, -1));
        }
        for (int which : Check.outside(2)) {
            Picture.dueUnchanged("would(" + which + ", 0, 0)", x -> due(x, which, 0, 0, -1));
        }
    }

    private static void emptyEditions() {
        MovedLines x = Check.of("a;", "");
        due(x, 0, 0, 0, -1);
        due(x, 1, 0, 0, -1);
        x = Check.of("", "a;");
        due(x, 0, 0, 0, -1);
        due(x, 1, 0, 0, -1);
        // one is of the EDITION that is named, other of the other one
        x = Check.of("a;b;c;", "d;e;");
        due(x, 0, 2, 1, 2);
        due(x, 1, 0, 2, 2);
        due(x, 0, 2, 2, -1);
        due(x, 1, 2, 2, -1);
    }
}
