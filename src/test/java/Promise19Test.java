import java.util.ArrayList;
import java.util.Arrays;
import java.util.List;

/** Promise 19: move takes LINES out and puts them in again. */
public final class Promise19Test {
    private Promise19Test() {
    }

    public static void main(String[] args) {
        Check.about("promise 19");
        ordinary();
        for (int lines : new int[] {0, 1, 2, 5, 14}) {
            eachMove(lines);
        }
        wildNumbers();
        noSuchEdition();
        changesNothing();
        Check.close();
    }

    private static void due(MovedLines x, int which, int from, int n, int at, boolean want) {
        Check.due("move(" + which + ", " + from + ", " + n + ", " + at + ")", x.move(which, from, n, at), want);
    }

    private static void ordinary() {
        MovedLines x = Check.of("a;b b;c;d d d;e;", "a;b;c;d;e;");
        Check.dueWays(x, "K0 E1 K2 - K4", "K0 E1 K2 - K4");
        Check.tell(x, "tape");
        due(x, 0, 1, 2, 3, true);
        Check.dueText("move", x, 0, "a;d d d;e;b b;c;");
        due(x, 0, 4, 1, 0, true);
        Check.dueText("move", x, 0, "c;a;d d d;e;b b;");
        Check.dueText("the other edition", x, 1, "a;b;c;d;e;");
        Check.dueWays(x, "K2 M0 - K4 E1", "M1 E4 K0 - K3");
        Check.due("now(8)", x.now(8), 2);
        Check.due("now(9), the tape stays", x.now(9), 4);
    }

    private static String moved(int lines, int from, int n, int at) {
        List<String> all = new ArrayList<>(Arrays.asList(Check.FOURTEEN.substring(0, 2 * lines).split(";")));
        List<String> out = new ArrayList<>(all.subList(from, from + n));
        all.subList(from, from + n).clear();
        all.addAll(at, out);
        return String.join(";", all) + ";";
    }

    /** All numbers from one below to one above the bounds. */
    private static void eachMove(int lines) {
        String text = Check.FOURTEEN.substring(0, 2 * lines);
        for (int from = -1; from <= lines; from++) {
            for (int n = -1; n <= lines + 1; n++) {
                for (int at = -1; at <= lines + 1; at++) {
                    boolean done = from >= 0 && n >= 1 && from + n <= lines && at >= 0 && at <= lines - n;
                    int which = (from + n + at) & 1;
                    MovedLines x = Check.of(which == 0 ? text : "y;", which == 1 ? text : "y;");
                    due(x, which, from, n, at, done);
                    Check.dueText("move(" + which + ", " + from + ", " + n + ", " + at + ")", x, which, done ? moved(lines, from, n, at) : text);
                    Check.dueText("the other edition", x, 1 - which, "y;");
                    Check.due("now(8)", x.now(8), done ? 1 : 0);
                }
            }
        }
    }

    private static void wildNumbers() {
        int[] wild = {Check.LEAST, Check.LEAST + 1, Check.LEAST + 14, -256, -14, 15, 16, 256, 1 << 30, Check.GREATEST - 13, Check.GREATEST - 1,
            Check.GREATEST};
        for (Scene scene : Scene.values()) {
            for (int number : wild) {
                MovedLines x = scene.make();
                for (int which = 0; which < 2; which++) {
                    due(x, which, number, 1, 0, false);
                    due(x, which, 0, number, 0, false);
                    due(x, which, 1, number, 0, false);
                    due(x, which, 5, number, 0, false);
                    due(x, which, 0, 1, number, false);
                    due(x, which, number, number, number, false);
                    due(x, which, number, -number, 0, false);
                    due(x, which, 1, number, -number, false);
                    due(x, which, 1, -number, number, false);
                    due(x, which, number, Check.GREATEST, Check.LEAST, false);
                }
            }
        }
        for (int number : wild) {
            Picture.dueUnchanged("move(1, " + number + ", 1, 0)", x -> due(x, 1, number, 1, 0, false));
            Picture.dueUnchanged("move(1, 1, " + number + ", 0)", x -> due(x, 1, 1, number, 0, false));
            Picture.dueUnchanged("move(1, 0, 1, " + number + ")", x -> due(x, 1, 0, 1, number, false));
        }
        Picture.dueUnchanged("move(1, 0, 0, 0)", x -> due(x, 1, 0, 0, 0, false));
        Picture.dueUnchanged("move(1, 0, 14, 1)", x -> due(x, 1, 0, 14, 1, false));
        Picture.dueUnchanged("move(1, 0, 1, 14)", x -> due(x, 1, 0, 1, 14, false));
    }

    private static void noSuchEdition() {
        for (int which : Check.outside(2)) {
            Picture.dueUnchanged("move(" + which + ", 0, 1, 0)", x -> due(x, which, 0, 1, 0, false));
        }
    }

    /** LINES put in where they were taken out: it was done, and can be undone. */
    private static void changesNothing() {
        MovedLines x = Check.of(Check.FOURTEEN, "");
        due(x, 0, 0, 14, 0, true);
        due(x, 0, 13, 1, 13, true);
        due(x, 0, 0, 1, 0, true);
        Check.dueText("move", x, 0, Check.FOURTEEN);
        Check.due("now(8)", x.now(8), 3);
        Check.due("undo()", x.undo(), 2);
    }
}
