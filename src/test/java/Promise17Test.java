/** Promise 17: change reads the tape as a LINE in place of one. What FAULTS there are stands in FaultsTest. */
public final class Promise17Test {
    private static final String[] FAULTY = {"", " ", "a;", "A", "abcdefg", "a b c d e f g h i", "a" + " ".repeat(80)};
    private static final int[] PLACES = {0, 1, 1, 0, 6, 16, 80};

    private Promise17Test() {
    }

    public static void main(String[] args) {
        Check.about("promise 17");
        ordinary();
        oneToEightWords();
        eachLineOfFourteen();
        noSuchLine();
        noneGoesAhead();
        faultLeavesAllElse();
        tapeIsEmptyThen();
        Check.close();
    }

    private static void due(MovedLines x, int which, int line, int want) {
        Check.due("change(" + which + ", " + line + ")", x.change(which, line), want);
    }

    private static void ordinary() {
        MovedLines x = Check.of("a;b;c;", "d;");
        Check.dueWays(x, "- - -", "-");
        Check.due("change(0, 1)", Check.change(x, 0, 1, "x y z"), 3);
        Check.due("change(1, 0)", Check.change(x, 1, 0, "c"), 1);
        Check.dueText("change", x, 0, "a;x y z;c;");
        Check.dueText("change", x, 1, "c;");
        Check.dueWays(x, "- - K0", "K2");
        Check.due("now(8)", x.now(8), 2);
    }

    private static void oneToEightWords() {
        for (int words = 1; words <= 8; words++) {
            MovedLines x = Check.of("a;b b b b b b b b;c;", "");
            String line = "z ".repeat(words).strip();
            Check.due("change", Check.change(x, 0, 1, line), words);
            Check.dueText("change to " + words, x, 0, "a;" + line + ";c;");
            Check.due("change", Check.change(x, 0, 0, line), words);
            Check.dueText("change to " + words, x, 0, line + ";" + line + ";c;");
        }
        MovedLines x = Check.of("a;", "");
        Check.due("change to nine", Check.change(x, 0, 0, "b b b b b b b b b"), -18);
        Check.dueText("change to nine", x, 0, "a;");
    }

    private static void eachLineOfFourteen() {
        for (int which = 0; which < 2; which++) {
            for (int line = 0; line < 14; line++) {
                MovedLines x = Check.of(Check.FOURTEEN, Check.FOURTEEN);
                Check.due("change(" + which + ", " + line + ")", Check.change(x, which, line, "z y"), 2);
                Check.dueText("change", x, which, Check.FOURTEEN.substring(0, 2 * line) + "z y;" + Check.FOURTEEN.substring(2 * line + 2));
                Check.dueText("the other edition", x, 1 - which, Check.FOURTEEN);
                Check.due("now(8)", x.now(8), 1);
            }
        }
    }

    private static void noSuchLine() {
        for (Scene scene : Scene.values()) {
            for (int which = 0; which < 2; which++) {
                int lines = scene.make().now(which);
                for (int line : Check.outside(lines)) {
                    int told = which;
                    Picture.dueUnchanged("change(" + which + ", " + line + ")", x -> due(x, told, line, -1), new Scene[] {scene});
                }
            }
        }
        for (int which : Check.outside(2)) {
            Picture.dueUnchanged("change(" + which + ", 0)", x -> due(x, which, 0, -1));
        }
    }

    /** Without such a LINE the tape is not read: no FAULT. */
    private static void noneGoesAhead() {
        MovedLines x = Check.of("a;", "");
        Check.tell(x, "A");
        due(x, 0, 1, -1);
        due(x, 1, 0, -1);
        due(x, 2, 0, -1);
        Check.due("now(9)", x.now(9), 1);
        Check.due("fault()", x.fault(), 0);
        due(x, 0, 0, -2);
        Check.due("now(9)", x.now(9), 0);
        Check.due("fault()", x.fault(), 1);
    }

    private static void faultLeavesAllElse() {
        for (int k = 0; k < FAULTY.length; k++) {
            String text = FAULTY[k];
            int due = -2 - PLACES[k];
            Picture.dueUnchanged("change(1, 0) with a FAULT", x -> {
                x.end(0);
                Check.due("change(1, 0) of \"" + text + "\"", Check.change(x, 1, 0, text), due);
                Check.due("now(9)", x.now(9), 0);
            }, new Scene[] {Scene.HALF, Scene.PLAIN, Scene.FULL}, Picture.TAPE_AND_FAULT);
            Picture.dueUnchanged("change(0, 5) with a FAULT", x -> {
                x.end(0);
                Check.due("change(0, 5) of \"" + text + "\"", Check.change(x, 0, 5, text), due);
                Check.due("now(9)", x.now(9), 0);
            }, new Scene[] {Scene.PLAIN, Scene.FULL}, Picture.TAPE_AND_FAULT);
        }
    }

    private static void tapeIsEmptyThen() {
        MovedLines x = Check.of("a;", "");
        Check.due("change", Check.change(x, 0, 0, "b c"), 2);
        Check.due("now(9)", x.now(9), 0);
        due(x, 0, 0, -2);
        Check.due("fault() of an empty tape", x.fault(), 1);
        Check.tell(x, " ".repeat(640));
        due(x, 0, 0, -82);
        Check.due("now(9) behind a full tape", x.now(9), 0);
        Check.due("change of 80 bytes", Check.change(x, 0, 0, "\n".repeat(74) + "abcdef"), 1);
        Check.dueText("change", x, 0, "abcdef;");
    }
}
