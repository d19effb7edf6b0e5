/** Promise 16: put reads the tape as a LINE and puts it into an EDITION. What FAULTS there are stands in FaultsTest. */
public final class Promise16Test {
    private static final String[] FAULTY = {"", " ", "a;", "A", "abcdefg", "a b c d e f g h i", "a" + " ".repeat(80)};
    private static final int[] PLACES = {0, 1, 1, 0, 6, 16, 80};

    private Promise16Test() {
    }

    public static void main(String[] args) {
        Check.about("promise 16");
        ordinary();
        atEachPlace();
        upToFourteen();
        noSuchPlace();
        noSuchEdition();
        noRoom();
        noneGoesAhead();
        faultLeavesAllElse();
        tapeIsEmptyThen();
        Check.close();
    }

    private static void due(MovedLines x, int which, int at, int want) {
        Check.due("put(" + which + ", " + at + ")", x.put(which, at), want);
    }

    private static void ordinary() {
        MovedLines x = Check.of("a;b;", "");
        Check.dueWays(x, "- -", "");
        Check.due("put(0, 0)", Check.put(x, 0, 0, "c d"), 3);
        Check.due("put(0, 3)", Check.put(x, 0, 3, "\n e "), 4);
        Check.due("put(0, 2)", Check.put(x, 0, 2, "f"), 5);
        Check.due("put(1, 0)", Check.put(x, 1, 0, "f"), 1);
        Check.dueText("put", x, 0, "c d;a;f;b;e;");
        Check.dueText("put", x, 1, "f;");
        Check.dueWays(x, "- - K0 - -", "K2");
        Check.due("now(8)", x.now(8), 4);
    }

    private static void atEachPlace() {
        for (int which = 0; which < 2; which++) {
            for (int lines = 0; lines < 14; lines++) {
                for (int at = 0; at <= lines; at++) {
                    String text = Check.FOURTEEN.substring(0, 2 * lines);
                    MovedLines x = Check.of(which == 0 ? text : "y;", which == 1 ? text : "y;");
                    Check.due("put(" + which + ", " + at + ") into " + lines, Check.put(x, which, at, "z z"), lines + 1);
                    Check.dueText("put(" + which + ", " + at + ")", x, which, text.substring(0, 2 * at) + "z z;" + text.substring(2 * at));
                    Check.dueText("the other edition", x, 1 - which, "y;");
                }
            }
        }
    }

    private static void upToFourteen() {
        MovedLines x = new MovedLines();
        for (int lines = 1; lines <= 14; lines++) {
            Check.due("put, the " + lines + "th", Check.put(x, 1, lines - 1, "a b"), lines);
        }
        Check.due("put, the 15th", Check.put(x, 1, 14, "a b"), -1000);
        Check.due("now(1)", x.now(1), 14);
        Check.due("put into the other one", x.put(0, 0), 1);
    }

    private static void noSuchPlace() {
        for (Scene scene : Scene.values()) {
            for (int which = 0; which < 2; which++) {
                int lines = scene.make().now(which);
                for (int at : Check.outside(lines + 1)) {
                    int told = which;
                    Picture.dueUnchanged("put(" + which + ", " + at + ")", x -> due(x, told, at, -1), new Scene[] {scene});
                }
            }
        }
    }

    private static void noSuchEdition() {
        for (int which : Check.outside(2)) {
            Picture.dueUnchanged("put(" + which + ", 0)", x -> due(x, which, 0, -1));
        }
    }

    private static void noRoom() {
        for (int at = 0; at <= 14; at++) {
            int told = at;
            Picture.dueUnchanged("put(0, " + at + ") into 14", x -> due(x, 0, told, -1000), new Scene[] {Scene.FULL});
            Picture.dueUnchanged("put(1, " + at + ") into 14", x -> due(x, 1, told, -1000), new Scene[] {Scene.FULL, Scene.HALF});
        }
        // a tape that would do, one with a FAULT, none
        for (String text : new String[] {"a", "A", ""}) {
            MovedLines x = Check.of("b;", Check.FOURTEEN);
            Check.due("put(1, 7) of \"" + text + "\"", Check.put(x, 1, 7, text), -1000);
            Check.due("now(9)", x.now(9), text.length());
            Check.due("fault()", x.fault(), 0);
            x.cut(1, 0);
            due(x, 1, 7, text.equals("a") ? 14 : -2);
        }
    }

    /** Of what is refused the first in order: no EDITION or place, no room, a FAULT. */
    private static void noneGoesAhead() {
        MovedLines x = Check.of(Check.FOURTEEN, "");
        Check.tell(x, "A");
        for (int at : Check.outside(15)) {
            due(x, 0, at, -1);
        }
        due(x, 2, 0, -1);
        due(x, -1, 0, -1);
        due(x, 1, 1, -1);
        due(x, 1, -1, -1);
        due(x, 0, 0, -1000);
        Check.due("now(9)", x.now(9), 1);
        Check.due("fault()", x.fault(), 0);
        due(x, 1, 0, -2);
        Check.due("now(9)", x.now(9), 0);
        Check.due("fault()", x.fault(), 1);
    }

    private static void faultLeavesAllElse() {
        for (int k = 0; k < FAULTY.length; k++) {
            String text = FAULTY[k];
            int due = -2 - PLACES[k];
            Picture.dueUnchanged("put(0, 0) with a FAULT", x -> {
                x.end(0);
                Check.due("put(0, 0) of \"" + text + "\"", Check.put(x, 0, 0, text), due);
                Check.due("now(9)", x.now(9), 0);
            }, new Scene[] {Scene.EMPTY, Scene.HALF, Scene.PLAIN}, Picture.TAPE_AND_FAULT);
            Picture.dueUnchanged("put(1, 8) with a FAULT", x -> {
                x.end(0);
                Check.due("put(1, 8) of \"" + text + "\"", Check.put(x, 1, 8, text), due);
                Check.due("now(9)", x.now(9), 0);
            }, new Scene[] {Scene.PLAIN}, Picture.TAPE_AND_FAULT);
        }
    }

    private static void tapeIsEmptyThen() {
        MovedLines x = new MovedLines();
        Check.due("put", Check.put(x, 0, 0, "a b c d e f g h"), 1);
        Check.due("now(9)", x.now(9), 0);
        due(x, 0, 1, -2);
        Check.due("fault() of an empty tape", x.fault(), 1);
        Check.tell(x, " ".repeat(640));
        due(x, 0, 1, -82);
        Check.due("now(9) behind a full tape", x.now(9), 0);
        Check.due("put of 80 bytes", Check.put(x, 0, 1, "ab" + " ".repeat(78)), 2);
        Check.dueText("put", x, 0, "a b c d e f g h;ab;");
    }
}
