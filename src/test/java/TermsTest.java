/** The terms: RANGE, HEAD, TAIL, ANCHORS, RUN; MOVED; EDITED; each LINE told once. By cases worked out by hand. */
public final class TermsTest {
    private TermsTest() {
    }

    public static void main(String[] args) {
        alike();
        headAndTail();
        anchors();
        run();
        rangesAgain();
        rangesAtUnlikePlaces();
        manyRanges();
        moved();
        movedInOrder();
        edited();
        editedInOrder();
        editedAheadOfACut();
        eachLineOnce();
        Check.close();
    }

    private static void due(String old, String fresh, String olds, String news) {
        Check.dueWays(Check.of(old, fresh), olds, news);
    }

    private static void alike() {
        Check.about("LINES are alike");
        due("a b c;", "a b c;", "K0", "K0");
        due("a b c d e f g h;", "a b c d e f g h;", "K0", "K0");
        due("a b c d e f g h;", "a b c d e f g i;", "E0", "E0");
        due("abcdef;", "abcdef;", "K0", "K0");
        due("abcdef;", "abcdeg;", "-", "-");
        due("bbcdef;", "abcdef;", "-", "-");
        due("abcde;", "abcdef;", "-", "-");
        // words in another order, one word split in two, one word more
        due("a b;", "b a;", "E0", "E0");
        due("de;", "d e;", "-", "-");
        due("a b;", "a b c;", "E0", "E0");
        due("a a;", "a a a;", "E0", "E0");
    }

    private static void headAndTail() {
        Check.about("HEAD and TAIL");
        due("", "", "", "");
        due("a;b;", "", "- -", "");
        due("", "a;b;", "", "- -");
        due("a;b;", "a;b;", "K0 K1", "K0 K1");
        due("x;x;y;", "x;x;x;y;", "K0 K1 K3", "K0 K1 - K2");
        due("x;x;x;y;", "x;y;", "K0 - - K1", "K0 K3");
        due("x;", "y;x;", "K1", "- K0");
        due("x;", "x;x;", "K0", "K0 -");
        due("x;x;", "x;", "K0 -", "K0");
        // HEAD goes as far as both have LINES, nothing is left for TAIL
        due("x;x;x;", "x;x;", "K0 K1 -", "K0 K1");
        due("x;".repeat(14), "x;".repeat(13), "K0 K1 K2 K3 K4 K5 K6 K7 K8 K9 K10 K11 K12 -", "K0 K1 K2 K3 K4 K5 K6 K7 K8 K9 K10 K11 K12");
        due(Check.FOURTEEN, "n;", "- - - - - - - - - - - - - K0", "K13");
        due("n;", Check.FOURTEEN, "K13", "- - - - - - - - - - - - - K0");
    }

    private static void anchors() {
        Check.about("ANCHORS");
        // there just once in NEW, but twice in OLD, and the other way round: no anchors, but moved
        due("p;x;q;x;r;", "s;t;x;u;", "- M2 - - -", "- - M1 -");
        due("s;t;x;u;", "p;x;q;x;r;", "- - M1 -", "- M2 - - -");
        // twice in OLD, but once in what HEAD, what TAIL leaves
        due("x;a;x;b;", "x;c;x;d;", "K0 - K2 -", "K0 - K2 -");
        due("b;x;a;x;", "d;x;c;x;", "- K1 - K3", "- K1 - K3");
    }

    private static void run() {
        Check.about("RUN");
        due("a;b;c;d;", "c;d;a;b;", "K2 K3 M0 M1", "M2 M3 K0 K1");
        due("p;a;b;c;q;", "r;a;c;b;s;", "- K1 K3 M2 -", "- K1 M3 K2 -");
        due("a;b;c;d;e;", "e;b;a;d;c;", "K2 M1 K4 M3 M0", "M4 M1 K0 M3 K2");
        due("c;a;b;", "a;b;c;", "M2 K0 K1", "K1 K2 M0");
        // 14 anchors, all falling: the first of OLD is kept
        due(Check.FOURTEEN, "n;m;l;k;j;i;h;g;f;e;d;c;b;a;", "K13 M12 M11 M10 M9 M8 M7 M6 M5 M4 M3 M2 M1 M0",
            "M13 M12 M11 M10 M9 M8 M7 M6 M5 M4 M3 M2 M1 K0");
        due(Check.FOURTEEN, Check.FOURTEEN.substring(2) + "a;", "M13 K0 K1 K2 K3 K4 K5 K6 K7 K8 K9 K10 K11 K12",
            "K1 K2 K3 K4 K5 K6 K7 K8 K9 K10 K11 K12 K13 M0");
        // all of the RUN at once: x y are there just once behind m, but not in the RANGE
        due("x;y;m;n;x;y;q;", "r;m;x;y;n;s;", "M2 M3 K1 K4 - - -", "- K2 M0 M1 K3 -");
        // like long ones: the first anchor decides, then the second
        due("a;b;c;d;", "d;b;a;c;", "K2 M1 K3 M0", "M3 M1 K0 K2");
        due("a;b;c;d;e;", "a;c;b;e;d;", "K0 K2 M1 K4 M3", "K0 M2 K1 M4 K3");
    }

    private static void rangesAgain() {
        Check.about("RANGES again");
        // x is once on each side of m
        due("p;x;m;x;q;", "r;x;m;x;s;", "- K1 K2 K3 -", "- K1 K2 K3 -");
        due("p;x;t;m;u;x;q;", "r;x;v;m;w;x;s;", "- K1 - K3 - K5 -", "- K1 - K3 - K5 -");
        // between two anchors that follow one another
        due("x;p;m;q;x;r;n;x;s;", "t;m;u;x;v;n;w;", "- - K1 - K3 - K5 - -", "- K2 - K4 - K6 -");
        // HEAD and TAIL of a range behind, between, ahead of anchors: x is no anchor there
        due("x;p;m;x;x;q;", "r;m;x;x;s;", "- - K1 K2 K3 -", "- K2 K3 K4 -");
        due("q;x;x;m;p;x;", "s;x;x;m;r;", "- K1 K2 K3 - -", "- K1 K2 K3 -");
        due("p;m;x;x;t;x;x;n;q;", "r;m;x;x;u;x;x;n;s;", "- K1 K2 K3 - K5 K6 K7 -", "- K1 K2 K3 - K5 K6 K7 -");
        due("p;m;x;x;n;q;", "r;m;x;x;x;n;s;", "- K1 K2 K3 K5 -", "- K1 K2 K3 - K4 -");
        due("p;m;x;x;x;n;q;", "r;m;x;x;n;s;", "- K1 K2 K3 - K4 -", "- K1 K2 K3 K5 -");
        // three ranges deep: z is once only inside x .. x inside m .. n
        due("z;x;m;a;x;b;z;c;x;n;z;", "d;m;e;z;f;n;g;", "- - K1 - - - K3 - - K5 -", "- K2 - K6 - K9 -");
        due("z;y;m;y;a;z;b;x;c;n;x;z;", "d;y;m;e;z;f;x;n;g;h;",
            "- K1 K2 - - K4 - K6 - K7 - -", "- K1 K2 - K5 - K7 K9 - -");
    }

    /** Both ways round: what comes late in the one EDITION comes early in the other. */
    private static void dueBothWays(String one, String other, String ones, String others) {
        due(one, other, ones, others);
        due(other, one, others, ones);
    }

    private static void rangesAtUnlikePlaces() {
        Check.about("RANGES at unlike places");
        // HEAD behind m
        dueBothWays("m;x;x;u;", "p;q;r;s;m;x;x;t;", "K4 K5 K6 -", "- - - - K0 K1 K2 -");
        // TAIL between m and n
        dueBothWays("m;u;x;x;n;v;", "p;q;r;s;t;m;w;x;x;n;", "K5 - K7 K8 K9 -", "- - - - - K0 - K2 K3 K4");
        // x is an anchor ahead of m and behind it
        dueBothWays("x;m;a;x;b;", "p;q;r;s;t;m;c;x;d;", "- K5 - K7 -", "- - - - - K1 - K3 -");
        dueBothWays("x;m;a;x;b;", "p;q;x;s;t;m;c;x;d;", "K2 K5 - K7 -", "- - K0 - - K1 - K3 -");
        // y is an anchor behind m, with a TAIL ahead of it and a HEAD behind it
        dueBothWays("y;m;a;x;x;y;z;z;b;", "p;q;r;s;t;m;c;x;x;y;z;z;d;",
            "- K5 - K7 K8 K9 K10 K11 -", "- - - - - K1 - K3 K4 K5 K6 K7 -");
    }

    /** Five anchors leave six RANGES; in the last a is an anchor, and the HEAD behind it is of the ninth RANGE. */
    private static void manyRanges() {
        Check.about("many RANGES");
        due("a;b;p;c;q;d;r;e;s;f;x;a;x;h;", "t;b;u;c;v;d;w;e;y;f;i;a;x;j;",
            "- K1 - K3 - K5 - K7 - K9 - K11 K12 -", "- K1 - K3 - K5 - K7 - K9 - K11 K12 -");
        // c parts all; d, then b, then h, then f part what is ahead of c; h parts what is behind it
        due("a;a;b;d;f;h;f;g;b;h;c;e;h;d;", "f;a;b;d;o;h;i;f;b;p;c;p;h;i;",
            "- K1 K2 K3 M0 K5 K7 - K8 - K10 - K12 -", "M4 K1 K2 K3 - K5 - K6 K8 - K10 - K12 -");
    }

    private static void moved() {
        Check.about("MOVED");
        due("x;x;a;", "b;x;x;", "M1 M2 -", "- M0 M1");
        due("x;x;p;", "q;x;r;x;", "M1 M3 -", "- M0 - M1");
        // a kept line parts a row
        due("p;a;b;c;", "b;q;a;c;", "- K2 M0 K3", "M2 - K1 K3");
        // the last lines of fourteen
        due("p;".repeat(13) + "x;", "x;" + "q;".repeat(13), "- - - - - - - - - - - - - K0", "K13 - - - - - - - - - - - - -");
        due("p;".repeat(12) + "x;x;", "x;x;" + "q;".repeat(12), "- - - - - - - - - - - - M0 M1", "M12 M13 - - - - - - - - - - - -");
        due("x;x;" + "q;".repeat(12), "p;".repeat(12) + "x;x;", "M12 M13 - - - - - - - - - - - -", "- - - - - - - - - - - - M0 M1");
        // as many blocks as lines: no two that follow one another in OLD do so in NEW
        MovedLines x = Check.of("a;b;c;d;e;f;g;a;b;c;d;e;f;g;", "g;f;e;d;c;b;a;g;f;e;d;c;b;a;");
        Check.dueWays(x, "M6 M5 M4 M3 M2 M1 M0 M13 M12 M11 M10 M9 M8 M7", "M6 M5 M4 M3 M2 M1 M0 M13 M12 M11 M10 M9 M8 M7");
        Check.due("now(4)", x.now(4), 14);
    }

    private static void movedInOrder() {
        Check.about("MOVED, the order");
        // the longest first, then the least of OLD, then the least of NEW
        due("x;y;k;x;y;z;z;", "z;z;x;y;", "M2 M3 - - - M0 M1", "M5 M6 M0 M1");
        due("x;k;x;y;y;", "h;x;y;x;y;i;", "M3 - M1 M2 M4", "- M2 M3 M0 M4 -");
        due("x;p;x;", "q;x;r;", "M1 - -", "- M0 -");
        due("q;x;r;", "x;p;x;", "- M0 -", "M1 - -");
        // moved goes ahead of edited
        due("a b;k;a b;", "d;a b;a c;e;", "M1 - E2", "- M0 E2 -");
    }

    private static void edited() {
        Check.about("EDITED");
        String eight = "a b c d e f g h ";
        for (int olds = 1; olds <= 8; olds++) {
            for (int news = 1; news <= 8; news++) {
                for (int same = 0; same <= Math.min(olds, news) && same < Math.max(olds, news); same++) {
                    String old = eight.substring(0, 2 * same) + "i j k l m n o p".substring(0, Math.max(0, 2 * (olds - same) - 1));
                    String fresh = eight.substring(0, 2 * same) + "q r s t u v w x".substring(0, Math.max(0, 2 * (news - same) - 1));
                    boolean enough = 2 * same >= olds && 2 * same >= news;
                    due(old + ";", fresh + ";", enough ? "E0" : "-", enough ? "E0" : "-");
                }
            }
        }
        // the words SHARED stand in order: c b a against a b c share one
        due("a b c;", "c b a;", "-", "-");
        // words of unlike places, in lines of unlike sizes
        dueBothWays("a b;", "p a b;", "E0", "E0");
        dueBothWays("a b c;", "p a q b r c;", "E0", "E0");
        // as many couples as lines
        MovedLines x = Check.of(Check.FOURTEEN.replace(";", " x;"), Check.FOURTEEN.replace(";", " y;"));
        Check.due("now(5)", x.now(5), 14);
    }

    private static void editedInOrder() {
        Check.about("EDITED, the order");
        due("a b p q;a b c q;", "a b c r;a b s t;", "E1 E0", "E1 E0");
        due("a b;a c;", "a d;a e;f a;", "E0 E1", "E0 E1 -");
        due("a b;a c;a d;", "a e;a f;", "E0 E1 -", "E0 E1");
        due("k;a b;", "a c;l;", "- E0", "E1 -");
        due("a b;k;", "l;a c;", "E1 -", "- E0");
        // a line that the other edition does not have
        dueBothWays("a c;", "k;l;m;a b;", "E3", "- - - E0");
        dueBothWays("a c;p q;", "k;l;q r;m;a b;", "E4 E2", "- - E1 - E0");
    }

    /** A LINE that was EDITED and is cut leaves nothing behind. */
    private static void editedAheadOfACut() {
        Check.about("EDITED, a LINE cut");
        for (int which = 0; which < 2; which++) {
            String longer = "k;a b;";
            MovedLines x = which == 0 ? Check.of(longer, "a c;") : Check.of("a c;", longer);
            Check.due("now(5)", x.now(5), 1);
            x.cut(which, 1);
            Check.due("now(5) behind cut(" + which + ", 1)", x.now(5), 0);
            Check.due("changes()", x.changes(), 3);
            Check.dueWays(x, "-", "-");
            Check.due("would(0, 0, 0)", x.would(0, 0, 0), 2);
            x.undo();
            Check.due("now(5) behind undo", x.now(5), 1);
        }
    }

    private static void eachLineOnce() {
        Check.about("each LINE told once");
        for (Scene scene : Scene.values()) {
            MovedLines x = scene.make();
            for (int which = 0; which < 2; which++) {
                int[] count = new int[4];
                int lines = x.now(which);
                for (int line = 0; line < lines; line++) {
                    int how = x.line(which, line, 1);
                    int with = x.line(which, line, 2);
                    count[how]++;
                    Check.due("with which", how == 3 ? with : x.line(1 - which, with, 2), how == 3 ? -1 : line);
                    Check.due("how the other one is", how == 3 ? 3 : x.line(1 - which, with, 1), how);
                    Check.due("the BLOCK", x.line(which, line, 3) != -1, how == 1);
                }
                int[] due = {x.now(2), x.now(3), x.now(5), x.now(6 + which)};
                for (int how = 0; how < 4; how++) {
                    Check.due(scene + ": lines of " + which + " that are " + how, count[how], due[how]);
                }
            }
        }
    }
}
