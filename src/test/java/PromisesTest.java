/** Each promise of the document, and each term, by cases worked out by hand. */
public final class PromisesTest {
    private static final String FOURTEEN = "a;b;c;d;e;f;g;h;i;j;k;l;m;n;";

    private PromisesTest() {
    }

    public static void main(String[] args) {
        newObject();
        feed();
        end();
        edition();
        faultsOfEditions();
        faultsOfLines();
        faultsOfLength();
        fault();
        now();
        line();
        letter();
        headAndTail();
        anchorsAndRun();
        rangesAgain();
        moved();
        edited();
        block();
        shared();
        stays();
        most();
        changes();
        anchors();
        would();
        put();
        change();
        cut();
        move();
        take();
        undo();
        undoKeepsTen();
        Check.close();
    }

    private static void due(String call, long got, long want) {
        Check.due(call, got, want);
    }

    private static void due(String call, boolean got, boolean want) {
        Check.due(call, got, want);
    }

    private static int editionOf(MovedLines x, int which, String text) {
        Check.tell(x, text);
        return x.edition(which);
    }

    private static int putOf(MovedLines x, int which, int at, String text) {
        Check.tell(x, text);
        return x.put(which, at);
    }

    private static int changeOf(MovedLines x, int which, int line, String text) {
        Check.tell(x, text);
        return x.change(which, line);
    }

    // ---- promise 1

    private static void newObject() {
        MovedLines x = new MovedLines();
        for (int what = 0; what <= 9; what++) {
            due("now(" + what + ") of a new object", x.now(what), 0);
        }
        due("fault() of a new object", x.fault(), 0);
        due("most() of a new object", x.most(), 0);
        due("changes() of a new object", x.changes(), 0);
        due("anchors(0) of a new object", x.anchors(0), 0);
        due("anchors(1) of a new object", x.anchors(1), 0);
        due("undo() of a new object", x.undo(), -1);
        due("NONE", MovedLines.NONE, -1);
        MovedLines y = Check.of("a;", "b;");
        due("now(0) of one object", y.now(0), 1);
        due("now(0) of another", x.now(0), 0);
    }

    // ---- promises 2 and 3

    private static void feed() {
        MovedLines x = new MovedLines();
        due("feed", x.feed(0x61626364, 0x65662067, 0x68696a6b, 0x6c203b20, 0x6d6e3b0a), 20);
        due("edition(0)", x.edition(0), 2);
        Check.dueText("twenty bytes, the highest first", x, 0, "abcdef ghijkl;mn;");
        for (int k = 1; k <= 32; k++) {
            due("feed number " + k, x.feed(k, -1, Integer.MIN_VALUE, Integer.MAX_VALUE, 0), 20 * k);
        }
        due("feed over 640", x.feed(0, 0, 0, 0, 0), -1);
        due("now(9)", x.now(9), 640);
        due("end(621)", x.end(621), true);
        due("feed of 621 bytes", x.feed(0, 0, 0, 0, 0), -1);
        due("now(9)", x.now(9), 621);
        due("end(620)", x.end(620), true);
        due("feed of 620 bytes", x.feed(0, 0, 0, 0, 0), 640);
    }

    private static void end() {
        MovedLines x = new MovedLines();
        due("end(0) of an empty tape", x.end(0), true);
        due("end(1) of an empty tape", x.end(1), false);
        due("end(-1)", x.end(-1), false);
        due("feed", x.feed(0x613b623b, 0x633b643b, 0, 0, 0), 20);
        due("end(21)", x.end(21), false);
        due("end(MIN)", x.end(Integer.MIN_VALUE), false);
        due("end(MAX)", x.end(Integer.MAX_VALUE), false);
        due("now(9)", x.now(9), 20);
        due("end(20)", x.end(20), true);
        due("end(6)", x.end(6), true);
        due("now(9)", x.now(9), 6);
        due("end(7), once shorter", x.end(7), false);
        Check.tell(x, "e;");
        due("edition(1)", x.edition(1), 4);
        Check.dueText("the first bytes and those behind", x, 1, "a;b;c;e;");
    }

    // ---- promise 4 and FAULTS

    private static void edition() {
        MovedLines x = new MovedLines();
        due("edition", editionOf(x, 0, " a\n\nbc ; d;\n"), 2);
        Check.dueText("edition(0)", x, 0, "a bc;d;");
        due("now(9) behind it", x.now(9), 0);
        due("now(1)", x.now(1), 0);
        due("edition of blanks", editionOf(x, 1, " \n "), 0);
        due("edition of nothing", x.edition(0), 0);
        due("now(0)", x.now(0), 0);
        due("edition of 14", editionOf(x, 1, FOURTEEN), 14);
        Check.dueText("edition(1)", x, 1, FOURTEEN);
        due("8 words of 6 letters", editionOf(x, 0, "zzzzzz zzzzzy zzzzzx a bcdefg h i j;"), 1);
        Check.dueText("edition(0)", x, 0, "zzzzzz zzzzzy zzzzzx a bcdefg h i j;");
        Check.tell(x, "a;");
        for (int which : new int[] {-1, 2, Integer.MIN_VALUE, Integer.MAX_VALUE}) {
            due("edition(" + which + ")", x.edition(which), -1);
        }
        due("now(9), the tape stays", x.now(9), 2);
        due("edition(0)", x.edition(0), 1);
        x.take();
        due("now(8)", x.now(8), 1);
        due("edition with a fault", editionOf(x, 1, "A"), -2);
        due("now(8), all stays", x.now(8), 1);
        due("now(9), empty with a fault too", x.now(9), 0);
        Check.dueText("all stays", x, 1, FOURTEEN);
        due("edition", editionOf(x, 1, "b;"), 1);
        due("now(8), nothing can be undone", x.now(8), 0);
        due("undo()", x.undo(), -1);
    }

    private static void dueFault(boolean whole, String text, int place, int kind) {
        MovedLines x = Check.of("q;", "r;s;");
        String call = (whole ? "edition" : "put") + " of \"" + text + "\"";
        due(call, whole ? editionOf(x, 0, text) : putOf(x, 0, 0, text), -2 - place);
        due(call + ", fault()", x.fault(), kind);
        Check.dueText(call, x, 0, "q;");
        due(call + ", now(8)", x.now(8), 0);
        due(call + ", now(9)", x.now(9), 0);
        if (!whole) {
            due("change with \"" + text + "\"", changeOf(x, 1, 1, text), -2 - place);
            due("change with \"" + text + "\", fault()", x.fault(), kind);
            Check.dueText(call, x, 1, "r;s;");
            due(call + ", now(8)", x.now(8), 0);
        }
    }

    private static void faultsOfEditions() {
        for (char wrong : new char[] {0, 9, 11, 13, 31, 33, '0', ':', '<', 'A', 'Z', '`', '{', 127, 128, 160, 225, 255}) {
            dueFault(true, "a; b" + wrong + ";", 4, 1);
        }
        dueFault(true, ";", 0, 1);
        dueFault(true, " ;", 1, 1);
        dueFault(true, "a;\n ;", 4, 1);
        dueFault(true, "a", 1, 1);
        dueFault(true, "a;b  ", 5, 1);
        dueFault(true, "a;abcdefg;", 8, 2);
        dueFault(true, "a b c d e f g h i;", 16, 2);
        dueFault(true, "a b c d e f g h  ii j", 17, 2);
        dueFault(true, FOURTEEN + " o;", 29, 2);
        dueFault(true, FOURTEEN + ";", 28, 1);
        dueFault(true, FOURTEEN + "A", 28, 1);
        dueFault(true, "abcdefg A;", 6, 2);
        dueFault(true, "A abcdefg;", 0, 1);
    }

    private static void faultsOfLines() {
        dueFault(false, "", 0, 1);
        dueFault(false, " \n ", 3, 1);
        dueFault(false, "a;", 1, 1);
        dueFault(false, ";", 0, 1);
        dueFault(false, "a B", 2, 1);
        dueFault(false, "abcdefg", 6, 2);
        dueFault(false, "a b c d e f g h i", 16, 2);
        dueFault(false, "a b c d e f g h I", 16, 1);
    }

    private static void faultsOfLength() {
        String blanks = " ".repeat(598);
        MovedLines x = new MovedLines();
        due("600 bytes", editionOf(x, 0, blanks + "a;"), 1);
        due("600 bytes, the last ones blanks", editionOf(x, 0, "a;" + blanks), 1);
        dueFault(true, blanks + "a; ", 600, 1);
        dueFault(true, blanks + " a;", 600, 1);
        dueFault(true, blanks + " a", 600, 1);
        dueFault(true, "a;" + blanks + "\n".repeat(40), 600, 1);
        dueFault(true, blanks.substring(4) + "abcdefg;", 600, 1);
        dueFault(true, blanks.substring(5) + "abcdefg;", 599, 2);
        dueFault(true, "A" + blanks + blanks.substring(560), 0, 1);
        due("80 bytes", putOf(x, 0, 0, " ".repeat(79) + "a"), 2);
        due("80 bytes of words", changeOf(x, 0, 0, "abcdef".repeat(1) + " ".repeat(74)), 1);
        dueFault(false, " ".repeat(79) + "ab", 80, 1);
        dueFault(false, " ".repeat(81), 80, 1);
        dueFault(false, " ".repeat(80), 80, 1);
        dueFault(false, " ".repeat(74) + "abcdefg", 80, 1);
        dueFault(false, " ".repeat(73) + "abcdefgh", 79, 2);
        due("more than 80 bytes as an edition", editionOf(x, 0, " ".repeat(100) + "a;"), 1);
    }

    // ---- promise 5

    private static void fault() {
        MovedLines x = new MovedLines();
        due("edition with a fault", editionOf(x, 0, "abcdefg;"), -8);
        due("fault()", x.fault(), 2);
        due("edition(5), which reads no tape", x.edition(5), -1);
        due("put(0, 1), which reads no tape", x.put(0, 1), -1);
        due("change(0, 0), which reads no tape", x.change(0, 0), -1);
        due("take()", x.take(), 0);
        due("undo()", x.undo(), 0);
        due("fault() stays", x.fault(), 2);
        due("edition", editionOf(x, 0, FOURTEEN), 14);
        due("fault()", x.fault(), 0);
        due("change with a fault", changeOf(x, 0, 0, "-"), -2);
        due("fault()", x.fault(), 1);
        due("put into 14, which reads no tape", putOf(x, 0, 0, "a"), -1000);
        due("fault() stays", x.fault(), 1);
        due("change", x.change(0, 0), 1);
        due("fault()", x.fault(), 0);
        due("put with a fault", putOf(x, 1, 0, "a b c d e f g h i"), -18);
        due("fault()", x.fault(), 2);
        due("put", putOf(x, 1, 0, "a"), 1);
        due("fault()", x.fault(), 0);
    }

    // ---- promises 6 to 8

    private static void now() {
        MovedLines x = Check.of("k;x;u v;w;x;y;", "l;u z;y;m;n;o;x;x;");
        // x is twice in NEW and OLD: only y is an anchor; x x are no row in OLD: two blocks
        Check.dueWays(x, "- M6 E1 - M7 K2", "- E2 K5 - - - M1 M4");
        int[] due = {6, 8, 1, 2, 2, 1, 2, 4, 0, 0};
        for (int what = 0; what < due.length; what++) {
            due("now(" + what + ")", x.now(what), due[what]);
        }
        for (int what : new int[] {-1, 10, Integer.MIN_VALUE, Integer.MAX_VALUE}) {
            due("now(" + what + ")", x.now(what), -1);
        }
        x.cut(0, 0);
        Check.tell(x, "abc");
        due("now(8)", x.now(8), 1);
        due("now(9)", x.now(9), 3);
        due("now(0)", x.now(0), 5);
        due("now(6)", x.now(6), 1);
    }

    private static void line() {
        MovedLines x = Check.of("k;x;u v;w;x;y;", "l;u z;y;m;n;o;x;x;");
        int[][] due = {{0, 0, 1, 3, -1, -1}, {0, 1, 1, 1, 6, 0}, {0, 2, 2, 2, 1, -1}, {0, 4, 1, 1, 7, 1}, {0, 5, 1, 0, 2, -1},
            {1, 0, 1, 3, -1, -1}, {1, 1, 2, 2, 2, -1}, {1, 2, 1, 0, 5, -1}, {1, 6, 1, 1, 1, 0}, {1, 7, 1, 1, 4, 1}};
        for (int[] row : due) {
            for (int what = 0; what < 4; what++) {
                due("line(" + row[0] + ", " + row[1] + ", " + what + ")",
                    Check.lineOrThrows(x, row[0], row[1], what), row[2 + what]);
            }
        }
        int[][] none = {{0, 6, 0}, {1, 8, 0}, {0, -1, 1}, {-1, 0, 0}, {2, 0, 0}, {0, 0, -1}, {0, 0, 4}, {1, 14, 3},
            {0, Integer.MAX_VALUE, 0}, {0, Integer.MIN_VALUE, 0}, {Integer.MIN_VALUE, 0, 0}, {0, 0, Integer.MAX_VALUE}};
        for (int[] row : none) {
            Check.throwsAtLine(x, row[0], row[1], row[2]);
        }
        Check.throwsAtLine(new MovedLines(), 0, 0, 0);
        x.cut(0, 5);
        Check.throwsAtLine(x, 0, 5, 0);
    }

    private static void letter() {
        MovedLines x = Check.of("a bcdefg;z;", "zyxwvu;");
        for (int k = 0; k < 6; k++) {
            due("letter(0, 0, 1, " + k + ")", x.letter(0, 0, 1, k), 2 + k);
            due("letter(1, 0, 0, " + k + ")", x.letter(1, 0, 0, k), 26 - k);
        }
        due("letters", x.letter(0, 0, 1, -1), 6);
        due("letters", x.letter(0, 0, 0, -1), 1);
        due("letters", x.letter(0, 1, 0, -1), 1);
        int[][] none = {{0, 0, 1, 6}, {0, 0, 0, 1}, {0, 0, 0, -2}, {0, 0, 2, -1}, {0, 0, 2, 0}, {0, 0, -1, 0}, {0, 2, 0, 0},
            {0, -1, 0, 0}, {1, 1, 0, -1}, {2, 0, 0, -1}, {-1, 0, 0, 0}, {0, 0, 0, Integer.MAX_VALUE}, {0, 0, 0, Integer.MIN_VALUE},
            {0, 0, Integer.MAX_VALUE, 0}, {0, 0, Integer.MIN_VALUE, 0}, {0, 0, 0, 32}};
        for (int[] row : none) {
            due("letter(" + row[0] + ", " + row[1] + ", " + row[2] + ", " + row[3] + ")",
                x.letter(row[0], row[1], row[2], row[3]), -1);
        }
        x.change(0, 0);
        due("change with a fault changes no letter", x.letter(0, 0, 1, 5), 7);
        changeOf(x, 0, 0, "b c");
        due("letter of a changed word", x.letter(0, 0, 1, 0), 3);
        due("letters of a changed word", x.letter(0, 0, 1, -1), 1);
    }

    // ---- RANGE, HEAD, TAIL, ANCHORS, RUN

    private static void headAndTail() {
        Check.dueWays(Check.of("", ""), "", "");
        Check.dueWays(Check.of("a;b;", ""), "- -", "");
        Check.dueWays(Check.of("a;b;", "a;b;"), "K0 K1", "K0 K1");
        Check.dueWays(Check.of("x;x;y;", "x;x;x;y;"), "K0 K1 K3", "K0 K1 - K2");
        Check.dueWays(Check.of("x;x;x;y;", "x;y;"), "K0 - - K1", "K0 K3");
        Check.dueWays(Check.of("x;", "y;x;"), "K1", "- K0");
        // words in another order, and one word split in two, are not alike
        Check.dueWays(Check.of("a b c;de;", "c;d e;"), "- -", "- -");
        Check.dueWays(Check.of("abc;", "ab c;"), "-", "-");
    }

    private static void anchorsAndRun() {
        Check.dueWays(Check.of("a;b;c;d;", "c;d;a;b;"), "K2 K3 M0 M1", "M2 M3 K0 K1");
        Check.dueWays(Check.of("p;a;b;c;q;", "r;a;c;b;s;"), "- K1 K3 M2 -", "- K1 M3 K2 -");
        Check.dueWays(Check.of("a;b;c;d;e;", "e;b;a;d;c;"), "K2 M1 K4 M3 M0", "M4 M1 K0 M3 K2");
        Check.dueWays(Check.of("c;a;b;", "a;b;c;"), "M2 K0 K1", "K1 K2 M0");
        // 14 anchors, all falling: the first of OLD is kept
        MovedLines x = Check.of(FOURTEEN, "n;m;l;k;j;i;h;g;f;e;d;c;b;a;");
        Check.dueWays(x, "K13 M12 M11 M10 M9 M8 M7 M6 M5 M4 M3 M2 M1 M0", "M13 M12 M11 M10 M9 M8 M7 M6 M5 M4 M3 M2 M1 K0");
        due("now(4)", x.now(4), 13);
        due("anchors(0)", x.anchors(0), 14);
        due("anchors(1)", x.anchors(1), 1);
        // there just once in NEW, but twice in OLD, and the other way round: no anchors, but moved
        Check.dueWays(Check.of("p;x;q;x;r;", "s;t;x;u;"), "- M2 - - -", "- - M1 -");
        Check.dueWays(Check.of("s;t;x;u;", "p;x;q;x;r;"), "- - M1 -", "- M2 - - -");
    }

    private static void rangesAgain() {
        // x is once in what HEAD leaves
        Check.dueWays(Check.of("x;a;x;b;", "x;c;x;d;"), "K0 - K2 -", "K0 - K2 -");
        // x is once on each side of m
        Check.dueWays(Check.of("p;x;m;x;q;", "r;x;m;x;s;"), "- K1 K2 K3 -", "- K1 K2 K3 -");
        Check.dueWays(Check.of("p;x;t;m;u;x;q;", "r;x;v;m;w;x;s;"), "- K1 - K3 - K5 -", "- K1 - K3 - K5 -");
        // between two anchors that follow one another
        Check.dueWays(Check.of("x;p;m;q;x;r;n;x;s;", "t;m;u;x;v;n;w;"), "- - K1 - K3 - K5 - -", "- K2 - K4 - K6 -");
        // three ranges deep: z is once only inside x .. x inside m .. n
        Check.dueWays(Check.of("z;x;m;a;x;b;z;c;x;n;z;", "d;m;e;z;f;n;g;"), "- - K1 - - - K3 - - K5 -", "- K2 - K6 - K9 -");
        Check.dueWays(
            Check.of("z;y;m;y;a;z;b;x;c;n;x;z;", "d;y;m;e;z;f;x;n;g;h;"),
            "- K1 K2 - - K4 - K6 - K7 - -", "- K1 K2 - K5 - K7 K9 - -");
    }

    // ---- MOVED, EDITED, BLOCK

    private static void moved() {
        Check.dueWays(Check.of("x;x;a;", "b;x;x;"), "M1 M2 -", "- M0 M1");
        Check.dueWays(Check.of("x;x;p;", "q;x;r;x;"), "M1 M3 -", "- M0 - M1");
        Check.dueWays(Check.of("x;y;k;x;y;z;z;", "z;z;x;y;"), "M2 M3 - - - M0 M1", "M5 M6 M0 M1");
        Check.dueWays(Check.of("x;k;x;y;y;", "h;x;y;x;y;i;"), "M3 - M1 M2 M4", "- M2 M3 M0 M4 -");
        // a kept line parts a row
        Check.dueWays(Check.of("p;a;b;c;", "b;q;a;c;"), "- K2 M0 K3", "M2 - K1 K3");
        // as many blocks as lines: no two that follow one another in OLD do so in NEW
        MovedLines x = Check.of("a;b;c;d;e;f;g;a;b;c;d;e;f;g;", "g;f;e;d;c;b;a;g;f;e;d;c;b;a;");
        Check.dueWays(x, "M6 M5 M4 M3 M2 M1 M0 M13 M12 M11 M10 M9 M8 M7", "M6 M5 M4 M3 M2 M1 M0 M13 M12 M11 M10 M9 M8 M7");
        due("now(4)", x.now(4), 14);
        due("line(0, 13, 3)", x.line(0, 13, 3), 13);
        // moved goes ahead of edited
        Check.dueWays(Check.of("a b;k;a b;", "d;a b;a c;e;"), "M1 - E2", "- M0 E2 -");
    }

    private static void edited() {
        Check.dueWays(Check.of("a b;", "a c;"), "E0", "E0");
        Check.dueWays(Check.of("a b c;", "a d;"), "-", "-");
        Check.dueWays(Check.of("a b;", "a c d;"), "-", "-");
        Check.dueWays(Check.of("a b c;", "a c d;"), "E0", "E0");
        Check.dueWays(Check.of("a;", "a b;"), "E0", "E0");
        Check.dueWays(Check.of("a;", "a b c;"), "-", "-");
        Check.dueWays(Check.of("a b c d e f g h;", "a b c d;"), "E0", "E0");
        Check.dueWays(Check.of("a b c d e f g h;", "a b c d i j k l;"), "E0", "E0");
        Check.dueWays(Check.of("a b c d e f g h;", "a b c i j k l m;"), "-", "-");
        Check.dueWays(Check.of("a b p q;a b c q;", "a b c r;a b s t;"), "E1 E0", "E1 E0");
        Check.dueWays(Check.of("a b;a c;", "a d;a e;f a;"), "E0 E1", "E0 E1 -");
        Check.dueWays(Check.of("a b;a c;a d;", "a e;a f;"), "E0 E1 -", "E0 E1");
        // as many couples as lines
        MovedLines x = Check.of(FOURTEEN.replace(";", " x;"), FOURTEEN.replace(";", " y;"));
        due("now(5)", x.now(5), 14);
        due("changes()", x.changes(), 28);
        // the words SHARED stand in order: c b a against a b c share one
        Check.dueWays(Check.of("a b c;", "c b a;"), "-", "-");
    }

    private static void block() {
        MovedLines x = Check.of("x;k;x;y;y;", "h;x;y;x;y;i;");
        int[][] due = {{2, 1, 2}, {0, 3, 1}, {4, 4, 1}};
        due("now(4)", x.now(4), 3);
        for (int block = 0; block < 3; block++) {
            for (int what = 0; what < 3; what++) {
                due("block(" + block + ", " + what + ")", x.block(block, what), due[block][what]);
            }
        }
        int[][] none = {{3, 0}, {-1, 0}, {0, 3}, {0, -1}, {14, 0}, {Integer.MAX_VALUE, 0}, {Integer.MIN_VALUE, 0},
            {0, Integer.MAX_VALUE}, {0, Integer.MIN_VALUE}};
        for (int[] row : none) {
            due("block(" + row[0] + ", " + row[1] + ")", x.block(row[0], row[1]), -1);
        }
        due("line(0, 3, 3)", x.line(0, 3, 3), 0);
        due("line(1, 3, 3)", x.line(1, 3, 3), 1);
        due("line(1, 4, 3)", x.line(1, 4, 3), 2);
        due("block of a new object", new MovedLines().block(0, 0), -1);
    }

    // ---- promises 10 to 12

    private static void shared() {
        MovedLines x = Check.of("a b c a b d;a a a;q;a b c d e f g h;", "b d c a b a;a;a a a a a a a a;h g f e d c b a;a b c d e f g h;");
        due("shared(0, 0)", x.shared(0, 0), 4);
        due("shared(0, 1)", x.shared(0, 1), 1);
        due("shared(1, 2)", x.shared(1, 2), 3);
        due("shared(2, 2)", x.shared(2, 2), 0);
        due("shared(3, 3)", x.shared(3, 3), 1);
        due("shared(3, 4)", x.shared(3, 4), 8);
        int[][] none = {{4, 0}, {0, 5}, {-1, 0}, {0, -1}, {Integer.MAX_VALUE, 0}, {0, Integer.MIN_VALUE}};
        for (int[] row : none) {
            due("shared(" + row[0] + ", " + row[1] + ")", x.shared(row[0], row[1]), -1);
        }
    }

    private static void dueStays(String old, String fresh, int... due) {
        MovedLines x = Check.of(old, fresh);
        for (int k = 0; k < due.length; k++) {
            due("stays(0, " + k + ", 0) of \"" + old + "\" and \"" + fresh + "\"", x.stays(0, k, 0), due[k]);
        }
        int[][] none = {{0, due.length, 0}, {0, -1, 0}, {1, 0, 0}, {0, 0, 1}, {-1, 0, 0}, {0, 0, -1},
            {0, Integer.MAX_VALUE, 0}, {0, Integer.MIN_VALUE, 0}};
        for (int[] row : none) {
            due("stays(" + row[0] + ", " + row[1] + ", " + row[2] + ")", x.stays(row[0], row[1], row[2]), -1);
        }
    }

    private static void stays() {
        dueStays("a b;", "b a;", 1, -1);
        dueStays("a;", "b a a;", 1);
        dueStays("x a b;", "x b a;", 0, 2, -1);
        dueStays("b a b;", "a b;", -1, 0, 1);
        dueStays("a a b;", "a b;", 0, -1, 1);
        dueStays("a b a;", "a a;", 0, -1, 1);
        dueStays("a b c d;", "c d a b;", 2, 3, -1, -1);
        dueStays("a b c d;", "e f;", -1, -1, -1, -1);
        dueStays("a b c d e f g h;", "a b c d e f g h;", 0, 1, 2, 3, 4, 5, 6, 7);
        dueStays("q a b c;", "a b c q;", -1, 0, 1, 2);
        dueStays("a b;", "a c a b;", 0, 3);
    }

    private static void most() {
        due("most()", Check.of("x;x;a;", "b;x;x;").most(), 2);
        due("most()", Check.of("a;b;c;d;", "c;d;a;b;").most(), 2);
        due("most()", Check.of(FOURTEEN, FOURTEEN).most(), 14);
        due("most()", Check.of(FOURTEEN, "n;m;l;k;j;i;h;g;f;e;d;c;b;a;").most(), 1);
        due("most()", Check.of("a b;", "a c;").most(), 0);
        due("most()", Check.of("a;b;c;a;b;d;", "b;d;c;a;b;a;").most(), 4);
        due("most()", Check.of("a;", "").most(), 0);
    }

    // ---- promises 13 and 14

    private static void changes() {
        due("changes()", Check.of("a b c;p;", "a b d e;q r;").changes(), 6);
        due("changes()", Check.of("a b c;p q;", "p q;a b c;").changes(), 0);
        due("changes()", Check.of("a b c;", "").changes(), 3);
        due("changes()", Check.of("", "a b c;d;").changes(), 4);
        due("changes()", Check.of("a a b;", "a b b;").changes(), 2);
        due("changes(), unlike lines at unlike places", Check.of("k;a b c;k;", "k;k;p q;r;").changes(), 6);
        due("changes(), moved ones at unlike places", Check.of("x;k l m;x;n o;", "p;q r;x;x;s t u v;").changes(), 12);
    }

    private static void anchors() {
        MovedLines x = Check.of("h;a;b;c;t;", "h;c;a;b;t;");
        due("anchors(0)", x.anchors(0), 3);
        due("anchors(1)", x.anchors(1), 2);
        for (int what : new int[] {-1, 2, Integer.MIN_VALUE, Integer.MAX_VALUE}) {
            due("anchors(" + what + ")", x.anchors(what), -1);
        }
        // those of ranges further in do not count
        x = Check.of("p;x;t;m;u;x;q;", "r;x;v;m;w;x;s;");
        due("anchors(0)", x.anchors(0), 1);
        due("anchors(1)", x.anchors(1), 1);
        x = Check.of(FOURTEEN, FOURTEEN);
        due("anchors(0), all HEAD", x.anchors(0), 0);
        due("anchors(1), all HEAD", x.anchors(1), 0);
        x.cut(0, 0);
        due("anchors(0), all TAIL", x.anchors(0), 0);
        x = Check.of("x;x;a;", "b;x;x;");
        due("anchors(0), none just once", x.anchors(0), 0);
        due("anchors(1), none just once", x.anchors(1), 0);
    }

    // ---- promise 15

    private static void would() {
        MovedLines x = Check.of("a;b;", "a;c;");
        due("would(0, 1, 1)", x.would(0, 1, 1), 2);
        due("would(1, 1, 1)", x.would(1, 1, 1), 2);
        due("would(0, 0, 0)", x.would(0, 0, 0), 0);
        due("would(1, 1, 0)", x.would(1, 1, 0), 0);
        Check.dueWays(x, "K0 -", "K0 -");
        due("now(8)", x.now(8), 0);
        int[][] none = {{2, 0, 0}, {-1, 0, 0}, {0, 2, 0}, {0, 0, 2}, {1, -1, 0}, {1, 0, -1},
            {0, Integer.MAX_VALUE, 0}, {0, 0, Integer.MIN_VALUE}, {Integer.MIN_VALUE, 0, 0}};
        for (int[] row : none) {
            due("would(" + row[0] + ", " + row[1] + ", " + row[2] + ")", x.would(row[0], row[1], row[2]), -1);
        }
        // "b" against "b;b": the line that is kept is kept with another one
        x = Check.of("b;", "c;b;");
        due("would(1, 0, 0)", x.would(1, 0, 0), 3);
        due("would(0, 0, 0)", x.would(0, 0, 0), 3);
        x = Check.of("a;b;c;", "d;e;");
        due("as many lines as told, not as could be: would(0, 2, 1)", x.would(0, 2, 1), 2);
        due("would(1, 0, 2)", x.would(1, 0, 2), 2);
        due("one is of this EDITION: would(0, 2, 2)", x.would(0, 2, 2), -1);
        due("one is of this EDITION: would(1, 2, 2)", x.would(1, 2, 2), -1);
    }

    // ---- promises 16 to 20

    private static void put() {
        MovedLines x = Check.of("a;b;", "");
        due("put(0, 0)", putOf(x, 0, 0, "c d"), 3);
        due("now(9)", x.now(9), 0);
        due("put(0, 3)", putOf(x, 0, 3, "\n e "), 4);
        due("put(0, 2)", putOf(x, 0, 2, "f"), 5);
        due("put(1, 0)", putOf(x, 1, 0, "f"), 1);
        Check.dueText("put", x, 0, "c d;a;f;b;e;");
        Check.dueText("put", x, 1, "f;");
        Check.dueWays(x, "- - K0 - -", "K2");
        due("now(8)", x.now(8), 4);
        Check.tell(x, "a;");
        int[][] none = {{0, -1}, {0, 6}, {1, 2}, {2, 0}, {-1, 0}, {0, Integer.MAX_VALUE}, {0, Integer.MIN_VALUE}};
        for (int[] row : none) {
            due("put(" + row[0] + ", " + row[1] + ")", x.put(row[0], row[1]), -1);
        }
        due("now(9), the tape stays", x.now(9), 2);
        due("put with a fault", x.put(0, 0), -3);
        due("now(9), empty with a fault too", x.now(9), 0);
        due("now(8)", x.now(8), 4);
        x = Check.of(FOURTEEN, "");
        Check.tell(x, "A");
        due("put into 14", x.put(0, 14), -1000);
        due("put into 14 at no place", x.put(0, 15), -1);
        due("now(9), the tape stays", x.now(9), 1);
        due("now(8)", x.now(8), 0);
    }

    private static void change() {
        MovedLines x = Check.of("a;b;c;", "d;");
        due("change(0, 1)", changeOf(x, 0, 1, "x y z"), 3);
        due("change(1, 0)", changeOf(x, 1, 0, "a b c d e f g h"), 8);
        due("change(1, 0)", changeOf(x, 1, 0, "c"), 1);
        Check.dueText("change", x, 0, "a;x y z;c;");
        Check.dueText("change", x, 1, "c;");
        Check.dueWays(x, "- - K0", "K2");
        due("now(8)", x.now(8), 3);
        Check.tell(x, "a b c d e f g h i");
        int[][] none = {{0, -1}, {0, 3}, {1, 1}, {2, 0}, {-1, 0}, {0, Integer.MAX_VALUE}, {0, Integer.MIN_VALUE}};
        for (int[] row : none) {
            due("change(" + row[0] + ", " + row[1] + ")", x.change(row[0], row[1]), -1);
        }
        due("now(9), the tape stays", x.now(9), 17);
        due("change with a fault", x.change(0, 0), -18);
        due("now(9), empty with a fault too", x.now(9), 0);
        due("now(8)", x.now(8), 3);
        Check.dueText("change with a fault", x, 0, "a;x y z;c;");
    }

    private static void cut() {
        MovedLines x = Check.of("a;b c;d;", "d;");
        due("cut(0, 1)", x.cut(0, 1), 2);
        Check.dueText("cut", x, 0, "a;d;");
        due("cut(0, 0)", x.cut(0, 0), 1);
        Check.dueWays(x, "K0", "K0");
        due("cut(1, 0)", x.cut(1, 0), 0);
        Check.dueText("cut", x, 1, "");
        due("now(8)", x.now(8), 3);
        int[][] none = {{1, 0}, {0, 1}, {0, -1}, {2, 0}, {-1, 0}, {0, Integer.MAX_VALUE}, {0, Integer.MIN_VALUE}};
        for (int[] row : none) {
            due("cut(" + row[0] + ", " + row[1] + ")", x.cut(row[0], row[1]), -1);
        }
        due("now(8)", x.now(8), 3);
    }

    private static void dueMove(int from, int n, int at, String want) {
        MovedLines x = Check.of("a;b b;c;d d d;e;", "a;b;c;d;e;");
        due("move(0, " + from + ", " + n + ", " + at + ")", x.move(0, from, n, at), true);
        Check.dueText("move(0, " + from + ", " + n + ", " + at + ")", x, 0, want);
        Check.dueText("move of OLD", x, 1, "a;b;c;d;e;");
        due("now(8)", x.now(8), 1);
    }

    private static void move() {
        dueMove(0, 1, 4, "b b;c;d d d;e;a;");
        dueMove(0, 1, 1, "b b;a;c;d d d;e;");
        dueMove(4, 1, 0, "e;a;b b;c;d d d;");
        dueMove(1, 2, 3, "a;d d d;e;b b;c;");
        dueMove(1, 3, 0, "b b;c;d d d;a;e;");
        dueMove(2, 1, 2, "a;b b;c;d d d;e;");
        dueMove(0, 5, 0, "a;b b;c;d d d;e;");
        MovedLines x = Check.of("a;b;c;", "d;e;f;g;");
        int[][] none = {{0, 0, 0, 0}, {0, 0, -1, 0}, {0, 0, 4, 0}, {0, 2, 2, 0}, {0, 3, 1, 0}, {0, -1, 1, 0}, {0, 0, 1, 3},
            {0, 0, 3, 1}, {0, 0, 1, -1}, {2, 0, 1, 0}, {-1, 0, 1, 0}, {0, 1, Integer.MAX_VALUE, 0}, {0, 2, Integer.MAX_VALUE, 0},
            {0, 0, Integer.MIN_VALUE, 0}, {0, 0, 1, Integer.MAX_VALUE}, {0, 0, 1, Integer.MIN_VALUE}, {0, Integer.MAX_VALUE, 1, 0}};
        for (int[] row : none) {
            due("move(" + row[0] + ", " + row[1] + ", " + row[2] + ", " + row[3] + ")",
                x.move(row[0], row[1], row[2], row[3]), false);
        }
        due("now(8)", x.now(8), 0);
        due("move(1, 3, 1, 0)", x.move(1, 3, 1, 0), true);
        Check.dueText("move of NEW", x, 1, "g;d;e;f;");
        Check.dueText("move of NEW", x, 0, "a;b;c;");
    }

    private static void take() {
        MovedLines x = Check.of("a;b;", "c d;e;f;");
        Check.tell(x, "xyz");
        due("take()", x.take(), 3);
        Check.dueText("take", x, 0, "c d;e;f;");
        Check.dueText("take", x, 1, "c d;e;f;");
        Check.dueWays(x, "K0 K1 K2", "K0 K1 K2");
        due("now(8)", x.now(8), 1);
        due("now(9), the tape stays", x.now(9), 3);
        due("take() of the same", x.take(), 3);
        due("now(8)", x.now(8), 2);
        x.cut(1, 0);
        Check.dueText("NEW changed behind take", x, 0, "c d;e;f;");
        MovedLines y = Check.of("a;b;", "");
        due("take() of nothing", y.take(), 0);
        due("now(0)", y.now(0), 0);
    }

    // ---- promise 21

    private static void undo() {
        MovedLines x = Check.of("a;b;c;", "d;e;");
        putOf(x, 1, 1, "x y");
        changeOf(x, 0, 2, "z");
        x.cut(0, 0);
        x.move(1, 0, 1, 2);
        x.take();
        Check.tell(x, "tape");
        Check.dueText("five steps", x, 0, "x y;e;d;");
        due("undo() of take", x.undo(), 4);
        Check.dueText("undo of take", x, 0, "b;z;");
        Check.dueText("undo of take", x, 1, "x y;e;d;");
        due("undo() of move", x.undo(), 3);
        Check.dueText("undo of move", x, 1, "d;x y;e;");
        due("undo() of cut", x.undo(), 2);
        Check.dueText("undo of cut", x, 0, "a;b;z;");
        due("undo() of change", x.undo(), 1);
        Check.dueText("undo of change", x, 0, "a;b;c;");
        due("undo() of put", x.undo(), 0);
        Check.dueText("undo of put", x, 1, "d;e;");
        due("undo() of none", x.undo(), -1);
        due("now(8)", x.now(8), 0);
        due("now(9), the tape stays", x.now(9), 4);
        Check.dueWays(x, "- - -", "- -");
        x.cut(0, 5);
        x.move(0, 0, 0, 0);
        x.put(0, 9);
        due("what was refused cannot be undone", x.undo(), -1);
        x.end(0);
        changeOf(x, 1, 0, "a");
        Check.dueWays(x, "K0 - -", "K0 -");
        due("undo()", x.undo(), 0);
        Check.dueWays(x, "- - -", "- -");
    }

    private static void undoKeepsTen() {
        MovedLines x = new MovedLines();
        StringBuilder all = new StringBuilder();
        for (int k = 0; k < 12; k++) {
            due("put", putOf(x, 1, k, String.valueOf((char) ('a' + k))), k + 1);
            due("now(8)", x.now(8), Math.min(k + 1, 10));
            all.append((char) ('a' + k)).append(';');
        }
        for (int k = 9; k >= 5; k--) {
            due("undo()", x.undo(), k);
        }
        Check.dueText("five undone", x, 1, all.substring(0, 14));
        for (int k = 0; k < 8; k++) {
            due("move", x.move(1, 0, 1, 6), true);
        }
        due("now(8)", x.now(8), 10);
        Check.dueText("eight moved", x, 1, "b;c;d;e;f;g;a;");
        for (int k = 9; k >= 0; k--) {
            due("undo()", x.undo(), k);
        }
        due("undo()", x.undo(), -1);
        Check.dueText("all undone that could be", x, 1, "a;b;c;d;e;");
    }
}
