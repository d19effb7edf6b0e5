/** Promise 14: anchors tells the ANCHORS of the first RANGE, and those of its RUN. */
public final class Promise14Test {
    private Promise14Test() {
    }

    public static void main(String[] args) {
        Check.about("promise 14");
        ordinary();
        emptyEditions();
        allHeadOrTail();
        fullEditions();
        askedAgain();
        anotherWhat();
        Check.close();
    }

    private static void due(String old, String fresh, int all, int run) {
        MovedLines x = Check.of(old, fresh);
        Check.due("anchors(0) of \"" + old + "\" and \"" + fresh + "\"", x.anchors(0), all);
        Check.due("anchors(1) of \"" + old + "\" and \"" + fresh + "\"", x.anchors(1), run);
    }

    private static void ordinary() {
        due("h;a;b;c;t;", "h;c;a;b;t;", 3, 2);
        // those of ranges further in do not count
        due("p;x;t;m;u;x;q;", "r;x;v;m;w;x;s;", 1, 1);
        due("x;x;a;", "b;x;x;", 0, 0);
        due("p;x;q;", "r;x;s;", 1, 1);
        due("p;x;q;x;", "r;x;s;", 0, 0);
        due("p;x;q;", "r;x;s;x;t;", 0, 0);
    }

    private static void emptyEditions() {
        due("", "", 0, 0);
        due(Check.FOURTEEN, "", 0, 0);
        due("", Check.FOURTEEN, 0, 0);
    }

    private static void allHeadOrTail() {
        due(Check.FOURTEEN, Check.FOURTEEN, 0, 0);
        due(Check.FOURTEEN.substring(2), Check.FOURTEEN, 0, 0);
        due(Check.FOURTEEN, Check.FOURTEEN.substring(2), 0, 0);
        due(Check.FOURTEEN, Check.FOURTEEN.substring(0, 26), 0, 0);
        due("a;", "a;", 0, 0);
        // one line is left in either
        due("a;b;c;", "a;d;c;", 0, 0);
    }

    private static void fullEditions() {
        due(Check.FOURTEEN, "n;m;l;k;j;i;h;g;f;e;d;c;b;a;", 14, 1);
        due(Check.FOURTEEN, Check.FOURTEEN.substring(2) + "a;", 14, 13);
        due(Check.FOURTEEN, "n;" + Check.FOURTEEN.substring(0, 26), 14, 13);
        due(Check.FOURTEEN, "z;" + Check.FOURTEEN.substring(2, 26) + "y;", 12, 12);
        due("x;".repeat(14), "y;" + "x;".repeat(12) + "y;", 0, 0);
    }

    /** Behind ANCHORS none are left, if there are no LINES or all are alike. */
    private static void askedAgain() {
        for (int which = 0; which < 2; which++) {
            MovedLines x = Check.of("a;b;c;", "c;a;b;");
            Check.due("anchors(0)", x.anchors(0), 3);
            Check.due("anchors(1)", x.anchors(1), 2);
            Check.due("edition of nothing", x.edition(which), 0);
            Check.due("anchors(0) without lines of " + which, x.anchors(0), 0);
            Check.due("anchors(1) without lines of " + which, x.anchors(1), 0);
        }
        MovedLines x = Check.of("a;b;c;", "c;a;b;");
        Check.due("anchors(0)", x.anchors(0), 3);
        Check.due("would(1, 0, 0)", x.would(1, 0, 0) > 0, true);
        Check.due("anchors(0) behind would", x.anchors(0), 3);
        x.take();
        Check.due("anchors(0) behind take", x.anchors(0), 0);
        Check.due("anchors(1) behind take", x.anchors(1), 0);
    }

    private static void anotherWhat() {
        for (int what : Check.outside(2)) {
            Check.due("anchors(" + what + ")", Check.of("a;b;", "b;a;").anchors(what), -1);
            Picture.dueUnchanged("anchors(" + what + ")", x -> Check.due("anchors(" + what + ")", x.anchors(what), -1));
        }
    }
}
