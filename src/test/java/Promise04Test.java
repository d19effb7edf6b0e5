/** Promise 4: edition reads the tape as an EDITION. What FAULTS there are stands in FaultsTest. */
public final class Promise04Test {
    private static final String[] FAULTY = {";", "a", "A;", "abcdefg;", "a b c d e f g h i;", Check.FOURTEEN + "o;",
        "a;" + " ".repeat(599), "z;".repeat(14) + "z".repeat(612)};
    private static final int[] PLACES = {0, 1, 0, 6, 16, 28, 600, 28};

    private Promise04Test() {
    }

    public static void main(String[] args) {
        Check.about("promise 4");
        asManyLinesAsTold();
        emptyTape();
        fullTape();
        onlyThatEdition();
        comparedAnew();
        nothingCanBeUndone();
        tapeIsEmptyThen();
        faultLeavesAll();
        noSuchEdition();
        Check.close();
    }

    private static void asManyLinesAsTold() {
        for (int which = 0; which < 2; which++) {
            for (int lines = 0; lines <= 14; lines++) {
                MovedLines x = Check.of(Check.FOURTEEN, "z z;");
                String text = Check.FOURTEEN.substring(0, 2 * lines);
                Check.due("edition(" + which + ") of " + lines, Check.edition(x, which, text), lines);
                Check.due("now(" + which + ")", x.now(which), lines);
                Check.dueText("edition(" + which + ")", x, which, text);
            }
            MovedLines x = Check.of("y;", "y;");
            Check.due("edition of 15", Check.edition(x, which, Check.FOURTEEN + "o;"), -30);
            Check.dueText("edition of 15", x, which, "y;");
        }
    }

    private static void emptyTape() {
        for (Scene scene : Scene.values()) {
            for (int which = 0; which < 2; which++) {
                MovedLines x = scene.make();
                x.end(0);
                Check.due(scene + " edition(" + which + ") of nothing", x.edition(which), 0);
                Check.due("now(" + which + ")", x.now(which), 0);
                Check.due("fault()", x.fault(), 0);
            }
        }
        Check.due("edition of blanks", Check.edition(new MovedLines(), 1, " \n "), 0);
    }

    private static void fullTape() {
        MovedLines x = new MovedLines();
        Check.due("600 bytes", Check.edition(x, 0, "a b;" + "\n".repeat(592) + " cd;"), 2);
        Check.dueText("600 bytes", x, 0, "a b;cd;");
        x = Scene.FULL.make();
        Check.due("640 bytes", x.edition(0), -602);
        Check.due("now(9)", x.now(9), 0);
    }

    private static void onlyThatEdition() {
        MovedLines x = Check.of("a b;c;", "d;e;f g;");
        Check.due("edition(0)", Check.edition(x, 0, " h\n\nij ; k;\n"), 2);
        Check.dueText("the one that was told", x, 0, "h ij;k;");
        Check.dueText("the other one", x, 1, "d;e;f g;");
        Check.due("edition(1)", Check.edition(x, 1, "k;"), 1);
        Check.dueText("the one that was told", x, 1, "k;");
        Check.dueText("the other one", x, 0, "h ij;k;");
        Check.dueWays(x, "- K0", "K1");
    }

    private static void comparedAnew() {
        MovedLines x = Check.of("a;b;", "b;c;");
        Check.dueWays(x, "- K0", "K1 -");
        Check.edition(x, 0, "c;c;c;");
        Check.dueWays(x, "- - K1", "- K2");
        Check.edition(x, 1, "c;");
        Check.dueWays(x, "K0 - -", "K0");
        Check.edition(x, 1, "C;");
        Check.dueWays(x, "K0 - -", "K0");
        x.edition(0);
        Check.dueWays(x, "", "-");
    }

    private static void nothingCanBeUndone() {
        for (int which = 0; which < 2; which++) {
            for (Scene scene : Scene.values()) {
                MovedLines x = scene.make();
                x.end(0);
                Check.due("edition(" + which + ")", Check.edition(x, which, "x;"), 1);
                Check.due(scene + " now(8)", x.now(8), 0);
                Check.due("undo()", x.undo(), -1);
                Check.dueText("undo of nothing", x, which, "x;");
                Check.due("cut", x.cut(which, 0), 0);
                Check.due("undo() of the cut", x.undo(), 0);
                Check.due("undo() of no more", x.undo(), -1);
                Check.dueText("undo of the cut", x, which, "x;");
            }
        }
    }

    private static void tapeIsEmptyThen() {
        MovedLines x = new MovedLines();
        Check.due("edition", Check.edition(x, 0, "a;"), 1);
        Check.due("now(9)", x.now(9), 0);
        Check.due("edition again: the tape has nothing", x.edition(1), 0);
        Check.due("edition with a FAULT", Check.edition(x, 0, "b;B"), -4);
        Check.due("now(9)", x.now(9), 0);
        Check.due("end(1)", x.end(1), false);
        Check.due("edition again: the tape has nothing", x.edition(0), 0);
    }

    private static void faultLeavesAll() {
        for (int k = 0; k < FAULTY.length; k++) {
            String text = FAULTY[k];
            int due = -2 - PLACES[k];
            for (int which = 0; which < 2; which++) {
                int told = which;
                Picture.dueUnchanged("edition with a FAULT", x -> {
                    x.end(0);
                    Check.due("edition(" + told + ") of \"" + text + "\"", Check.edition(x, told, text), due);
                    Check.due("now(9)", x.now(9), 0);
                }, Scene.values(), Picture.TAPE_AND_FAULT);
            }
        }
    }

    private static void noSuchEdition() {
        for (int which : Check.outside(2)) {
            Picture.dueUnchanged("edition(" + which + ")", x -> Check.due("edition(" + which + ")", x.edition(which), -1));
        }
    }
}
