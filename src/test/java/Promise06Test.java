/** Promise 6: now tells how many there are of each kind. */
public final class Promise06Test {
    private Promise06Test() {
    }

    public static void main(String[] args) {
        Check.about("promise 6");
        someOfEach();
        mostOfEach();
        oneSideAlone();
        steps();
        bytes();
        anotherWhat();
        Check.close();
    }

    private static void due(MovedLines x, int... due) {
        for (int what = 0; what < due.length; what++) {
            Check.due("now(" + what + ")", x.now(what), due[what]);
        }
    }

    private static void someOfEach() {
        MovedLines x = Check.of("k;x;u v;w;x;y;", "l;u z;y;m;n;o;x;x;");
        // x is twice in NEW and OLD: only y is an anchor; x x are no row in OLD: two blocks
        Check.dueWays(x, "- M6 E1 - M7 K2", "- E2 K5 - - - M1 M4");
        due(x, 6, 8, 1, 2, 2, 1, 2, 4, 0, 0);
        x.cut(0, 0);
        Check.tell(x, "abc");
        due(x, 5, 8, 1, 2, 2, 1, 1, 4, 1, 3);
    }

    private static void mostOfEach() {
        due(Check.of(Check.FOURTEEN, Check.FOURTEEN), 14, 14, 14, 0, 0, 0, 0, 0, 0, 0);
        due(Check.of("a;b;c;d;e;f;g;a;b;c;d;e;f;g;", "g;f;e;d;c;b;a;g;f;e;d;c;b;a;"), 14, 14, 0, 14, 14, 0, 0, 0, 0, 0);
        due(Check.of("x;".repeat(13) + "y;", "z;" + "x;".repeat(13)), 14, 14, 0, 13, 1, 0, 1, 1, 0, 0);
        due(Check.of(Check.FOURTEEN.replace(";", " x;"), Check.FOURTEEN.replace(";", " y;")), 14, 14, 0, 0, 0, 14, 0, 0, 0, 0);
        due(Check.of(Check.FOURTEEN, Check.FOURTEEN.replace(";", "z;")), 14, 14, 0, 0, 0, 0, 14, 14, 0, 0);
    }

    private static void oneSideAlone() {
        due(new MovedLines(), 0, 0, 0, 0, 0, 0, 0, 0, 0, 0);
        due(Check.of(Check.FOURTEEN, ""), 14, 0, 0, 0, 0, 0, 14, 0, 0, 0);
        due(Check.of("", Check.FOURTEEN), 0, 14, 0, 0, 0, 0, 0, 14, 0, 0);
        due(Check.of("a;", ""), 1, 0, 0, 0, 0, 0, 1, 0, 0, 0);
        due(Check.of("", "a;"), 0, 1, 0, 0, 0, 0, 0, 1, 0, 0);
        due(Check.of("a;", "a;"), 1, 1, 1, 0, 0, 0, 0, 0, 0, 0);
    }

    private static void steps() {
        MovedLines x = new MovedLines();
        for (int done = 1; done <= 25; done++) {
            x.take();
            Check.due("now(8), " + done + " done", x.now(8), Math.min(done, 10));
        }
        for (int left = 9; left >= 0; left--) {
            x.undo();
            Check.due("now(8), " + left + " left", x.now(8), left);
        }
        x.undo();
        Check.due("now(8), undo was refused", x.now(8), 0);
    }

    private static void bytes() {
        MovedLines x = new MovedLines();
        for (int fed = 20; fed <= 640; fed += 20) {
            x.feed(0, 0, 0, 0, 0);
            Check.due("now(9)", x.now(9), fed);
        }
        x.feed(0, 0, 0, 0, 0);
        Check.due("now(9) at its most", x.now(9), 640);
        x.end(1);
        Check.due("now(9)", x.now(9), 1);
        x.end(0);
        Check.due("now(9)", x.now(9), 0);
    }

    private static void anotherWhat() {
        for (int what : Check.outside(10)) {
            Picture.dueUnchanged("now(" + what + ")", x -> Check.due("now(" + what + ")", x.now(what), -1));
        }
    }
}
