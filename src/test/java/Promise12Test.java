/** Promise 12: most tells the most LINES that could be KEPT together by any rising couples. */
public final class Promise12Test {
    private static final String FALLING = "n;m;l;k;j;i;h;g;f;e;d;c;b;a;";

    private Promise12Test() {
    }

    public static void main(String[] args) {
        Check.about("promise 12");
        ordinary();
        emptyEditions();
        fullEditions();
        notBelowKept();
        longAheadOfShort();
        Check.close();
    }

    private static void due(String old, String fresh, int want) {
        Check.due("most() of \"" + old + "\" and \"" + fresh + "\"", Check.of(old, fresh).most(), want);
    }

    private static void ordinary() {
        due("x;x;a;", "b;x;x;", 2);
        due("a;b;c;d;", "c;d;a;b;", 2);
        due("a b;", "a c;", 0);
        due("a b;", "a b;", 1);
        due("a;b;c;a;b;d;", "b;d;c;a;b;a;", 4);
    }

    private static void emptyEditions() {
        due("", "", 0);
        due("a;", "", 0);
        due("", "a;", 0);
        due(Check.FOURTEEN, "", 0);
        due("", Check.FOURTEEN, 0);
    }

    private static void fullEditions() {
        due(Check.FOURTEEN, Check.FOURTEEN, 14);
        due(Check.FOURTEEN, FALLING, 1);
        due(Check.FOURTEEN, Check.FOURTEEN.substring(2) + "a;", 13);
        due(Check.FOURTEEN, Check.FOURTEEN.substring(2), 13);
        due("n;" + Check.FOURTEEN.substring(0, 26), Check.FOURTEEN, 13);
        due(Check.FOURTEEN, Check.FOURTEEN.replace(";", "o;"), 0);
        due("x;".repeat(14), "x;".repeat(14), 14);
        due("x;".repeat(14), "x;", 1);
        due("a;b;".repeat(7), "b;a;".repeat(7), 13);
        due(Check.FOURTEEN, "o;o;o;o;o;o;o;o;o;o;o;o;o;n;", 1);
        due(Check.FOURTEEN, "a;o;o;o;o;o;o;o;o;o;o;o;o;n;", 2);
    }

    /** What was asked ahead of it does not count. */
    private static void longAheadOfShort() {
        MovedLines x = Check.of("a b c d e f g h;i;", "a b c d e f g j;k;");
        Check.due("changes()", x.changes(), 4);
        Check.due("most()", x.most(), 0);
        x = Check.of(Check.FOURTEEN, Check.FOURTEEN);
        for (int lines = 14; lines > 0; lines--) {
            Check.due("most() of " + lines, x.most(), lines);
            x.cut(0, lines - 1);
            x.cut(1, 0);
            x.take();
        }
        Check.due("most() of none", x.most(), 0);
    }

    /** Here the RUN of ANCHORS keeps fewer LINES than could stay. */
    private static void notBelowKept() {
        MovedLines x = Check.of("p;q;q;r;r;s;", "q;q;r;r;p;");
        Check.due("most()", x.most(), 4);
        Check.due("now(2)", x.now(2), 1);
        x.cut(1, 4);
        Check.due("most() behind a cut", x.most(), 4);
        x.cut(0, 1);
        Check.due("most() behind a cut", x.most(), 3);
        x.undo();
        Check.due("most() behind undo", x.most(), 4);
    }
}
