/** Promise 18: cut takes a LINE out. */
public final class Promise18Test {
    private Promise18Test() {
    }

    public static void main(String[] args) {
        Check.about("promise 18");
        ordinary();
        eachLine();
        downToNone();
        noSuchLine();
        Check.close();
    }

    private static void ordinary() {
        MovedLines x = Check.of("a;b c;d;", "d;");
        Check.dueWays(x, "- - K0", "K2");
        Check.tell(x, "tape");
        Check.due("cut(0, 1)", x.cut(0, 1), 2);
        Check.dueText("cut", x, 0, "a;d;");
        Check.due("cut(0, 0)", x.cut(0, 0), 1);
        Check.dueWays(x, "K0", "K0");
        Check.due("cut(1, 0)", x.cut(1, 0), 0);
        Check.dueText("cut", x, 1, "");
        Check.due("now(8)", x.now(8), 3);
        Check.due("now(9), the tape stays", x.now(9), 4);
    }

    private static void eachLine() {
        for (int which = 0; which < 2; which++) {
            for (int lines = 1; lines <= 14; lines++) {
                for (int line = 0; line < lines; line++) {
                    String text = Check.FOURTEEN.substring(0, 2 * lines);
                    MovedLines x = Check.of(which == 0 ? text : "y;", which == 1 ? text : "y;");
                    Check.due("cut(" + which + ", " + line + ") of " + lines, x.cut(which, line), lines - 1);
                    Check.dueText("cut", x, which, text.substring(0, 2 * line) + text.substring(2 * line + 2));
                    Check.dueText("the other edition", x, 1 - which, "y;");
                    Check.due("now(8)", x.now(8), 1);
                }
            }
        }
    }

    private static void downToNone() {
        MovedLines x = Check.of(Check.FOURTEEN, Check.FOURTEEN);
        for (int left = 13; left >= 0; left--) {
            Check.due("cut(0, " + left + ")", x.cut(0, left), left);
            Check.due("cut(1, 0)", x.cut(1, 0), left);
        }
        Check.due("cut(0, 0), none is left", x.cut(0, 0), -1);
        Check.due("cut(1, 0), none is left", x.cut(1, 0), -1);
        Check.due("now(0)", x.now(0), 0);
        Check.due("now(1)", x.now(1), 0);
        Check.due("now(8)", x.now(8), 10);
    }

    private static void noSuchLine() {
        for (Scene scene : Scene.values()) {
            for (int which = 0; which < 2; which++) {
                int lines = scene.make().now(which);
                for (int line : Check.outside(lines)) {
                    String call = "cut(" + which + ", " + line + ")";
                    int told = which;
                    Picture.dueUnchanged(call, x -> Check.due(call, x.cut(told, line), -1), new Scene[] {scene});
                }
            }
        }
        for (int which : Check.outside(2)) {
            String call = "cut(" + which + ", 0)";
            Picture.dueUnchanged(call, x -> Check.due(call, x.cut(which, 0), -1));
        }
    }
}
