/** Promise 9: block tells of a BLOCK its first LINES, and how many. */
public final class Promise09Test {
    private Promise09Test() {
    }

    public static void main(String[] args) {
        Check.about("promise 9");
        someBlocks();
        mostBlocks();
        longestBlock();
        lastLines();
        noSuchBlock();
        anotherWhat();
        Check.close();
    }

    private static void due(MovedLines x, int block, int... due) {
        for (int what = 0; what < 3; what++) {
            Check.due("block(" + block + ", " + what + ")", x.block(block, what), due[what]);
        }
    }

    private static void someBlocks() {
        MovedLines x = Check.of("x;k;x;y;y;", "h;x;y;x;y;i;");
        Check.due("now(4)", x.now(4), 3);
        due(x, 0, 2, 1, 2);
        due(x, 1, 0, 3, 1);
        due(x, 2, 4, 4, 1);
        due(x, 3, -1, -1, -1);
        Check.due("line(0, 3, 3)", x.line(0, 3, 3), 0);
        Check.due("line(1, 3, 3)", x.line(1, 3, 3), 1);
        Check.due("line(1, 4, 3)", x.line(1, 4, 3), 2);
    }

    private static void mostBlocks() {
        MovedLines x = Check.of("a;b;c;d;e;f;g;a;b;c;d;e;f;g;", "g;f;e;d;c;b;a;g;f;e;d;c;b;a;");
        for (int block = 0; block < 14; block++) {
            due(x, block, block, block < 7 ? 6 - block : 20 - block, 1);
        }
        due(x, 14, -1, -1, -1);
    }

    private static void longestBlock() {
        MovedLines x = Check.of("x;".repeat(13) + "y;", "z;" + "x;".repeat(13));
        due(x, 0, 0, 1, 13);
        due(x, 1, -1, -1, -1);
        x = Check.of("z;" + "x;".repeat(13), "x;".repeat(13) + "y;");
        due(x, 0, 1, 0, 13);
    }

    private static void lastLines() {
        MovedLines x = Check.of("b;c;d;e;f;g;h;i;j;k;l;m;n;a;", "a;b;c;d;e;f;g;h;i;j;k;l;m;n;");
        due(x, 0, 13, 0, 1);
        x = Check.of("a;b;c;d;e;f;g;h;i;j;k;l;m;n;", "b;c;d;e;f;g;h;i;j;k;l;m;n;a;");
        due(x, 0, 0, 13, 1);
    }

    private static void noSuchBlock() {
        for (Scene scene : Scene.values()) {
            MovedLines x = scene.make();
            for (int block : Check.outside(x.now(4))) {
                due(x, block, -1, -1, -1);
            }
        }
        for (int block : Check.outside(14)) {
            Picture.dueUnchanged("block(" + block + ", 0)", x -> Check.due("block(" + block + ", 0)", x.block(block, 0), -1));
        }
        due(Check.of(Check.FOURTEEN, Check.FOURTEEN), 0, -1, -1, -1);
        MovedLines x = Check.of("a;b;", "b;a;");
        due(x, 0, 1, 0, 1);
        x.cut(0, 0);
        due(x, 0, -1, -1, -1);
        x.undo();
        due(x, 0, 1, 0, 1);
    }

    private static void anotherWhat() {
        for (int what : Check.outside(3)) {
            MovedLines x = Check.of("a;b;", "b;a;");
            Check.due("block(0, " + what + ")", x.block(0, what), -1);
            Check.due("block(1, " + what + ")", x.block(1, what), -1);
            Picture.dueUnchanged("block(0, " + what + ")", y -> Check.due("block(0, " + what + ")", y.block(0, what), -1));
        }
    }
}
