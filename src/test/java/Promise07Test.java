/** Promise 7: line tells of a LINE its WORDS, how it is, with which one, of which BLOCK. */
public final class Promise07Test {
    private Promise07Test() {
    }

    public static void main(String[] args) {
        Check.about("promise 7");
        eachKind();
        words();
        lastOfFourteen();
        noSuchLine();
        anotherWhat();
        behindChanges();
        Check.close();
    }

    private static void due(MovedLines x, int which, int line, int... due) {
        for (int what = 0; what < 4; what++) {
            Check.due("line(" + which + ", " + line + ", " + what + ")", Check.lineOrThrows(x, which, line, what), due[what]);
        }
    }

    private static void eachKind() {
        MovedLines x = Check.of("k;x;u v;w;x;y;", "l;u z;y;m;n;o;x;x;");
        due(x, 0, 0, 1, 3, -1, -1);
        due(x, 0, 1, 1, 1, 6, 0);
        due(x, 0, 2, 2, 2, 1, -1);
        due(x, 0, 4, 1, 1, 7, 1);
        due(x, 0, 5, 1, 0, 2, -1);
        due(x, 1, 0, 1, 3, -1, -1);
        due(x, 1, 1, 2, 2, 2, -1);
        due(x, 1, 2, 1, 0, 5, -1);
        due(x, 1, 6, 1, 1, 1, 0);
        due(x, 1, 7, 1, 1, 4, 1);
    }

    private static void words() {
        for (int words = 1; words <= 8; words++) {
            MovedLines x = Check.of("a;" + "b ".repeat(words) + ";", "c ".repeat(words) + ";d;");
            Check.due("line(0, 1, 0)", x.line(0, 1, 0), words);
            Check.due("line(1, 0, 0)", x.line(1, 0, 0), words);
            Check.due("line(0, 0, 0)", x.line(0, 0, 0), 1);
        }
    }

    private static void lastOfFourteen() {
        MovedLines x = Check.of(Check.FOURTEEN, Check.FOURTEEN);
        due(x, 0, 13, 1, 0, 13, -1);
        due(x, 1, 13, 1, 0, 13, -1);
        x = Check.of("a;b;c;d;e;f;g;a;b;c;d;e;f;g;", "g;f;e;d;c;b;a;g;f;e;d;c;b;a;");
        due(x, 0, 13, 1, 1, 7, 13);
        due(x, 1, 0, 1, 1, 6, 6);
        due(x, 1, 13, 1, 1, 7, 7);
        x = Check.of(Check.FOURTEEN.replace(";", " x;"), Check.FOURTEEN.replace(";", " y;"));
        due(x, 0, 13, 2, 2, 13, -1);
        x = Check.of("", Check.FOURTEEN);
        due(x, 1, 13, 1, 3, -1, -1);
        x = Check.of(Check.FOURTEEN, "");
        due(x, 0, 13, 1, 3, -1, -1);
    }

    private static void noSuchLine() {
        for (Scene scene : Scene.values()) {
            MovedLines x = scene.make();
            for (int what = 0; what < 4; what++) {
                for (int which = 0; which < 2; which++) {
                    for (int line : Check.outside(x.now(which))) {
                        Check.throwsAtLine(x, which, line, what);
                    }
                }
                for (int which : Check.outside(2)) {
                    Check.throwsAtLine(x, which, 0, what);
                }
            }
        }
        for (int line : new int[] {Check.LEAST, -1, 14, Check.GREATEST}) {
            Picture.dueUnchanged("line(1, " + line + ", 1)", x -> Check.throwsAtLine(x, 1, line, 1));
        }
        for (int which : new int[] {Check.LEAST, -1, 2, Check.GREATEST}) {
            Picture.dueUnchanged("line(" + which + ", 0, 2)", x -> Check.throwsAtLine(x, which, 0, 2));
        }
    }

    private static void anotherWhat() {
        for (int what : Check.outside(4)) {
            MovedLines x = Check.of("a;b;", "b;");
            Check.throwsAtLine(x, 0, 0, what);
            Check.throwsAtLine(x, 1, 0, what);
            Check.throwsAtLine(x, 0, 2, what);
            Check.throwsAtLine(x, 2, 0, what);
            Picture.dueUnchanged("line(0, 0, " + what + ")", y -> Check.throwsAtLine(y, 0, 0, what));
        }
    }

    private static void behindChanges() {
        MovedLines x = Check.of("a;b;", "a;b;");
        x.cut(0, 1);
        Check.throwsAtLine(x, 0, 1, 0);
        due(x, 1, 1, 1, 3, -1, -1);
        x.undo();
        due(x, 0, 1, 1, 0, 1, -1);
        Check.put(x, 1, 2, "c c c");
        due(x, 1, 2, 3, 3, -1, -1);
        x.undo();
        Check.throwsAtLine(x, 1, 2, 0);
    }
}
