/** Promise 13: changes tells the WORDS that went and came. */
public final class Promise13Test {
    private static final String EIGHT = "a b c d e f g h;";

    private Promise13Test() {
    }

    public static void main(String[] args) {
        Check.about("promise 13");
        ordinary();
        emptyEditions();
        fullEditions();
        editedAtTheBound();
        askedAgain();
        Check.close();
    }

    private static void due(String old, String fresh, int want) {
        Check.due("changes() of \"" + old + "\" and \"" + fresh + "\"", Check.of(old, fresh).changes(), want);
    }

    private static void ordinary() {
        due("a b c;p;", "a b d e;q r;", 6);
        due("a b c;p q;", "p q;a b c;", 0);
        due("a a b;", "a b b;", 2);
        // lines of unlike sizes at unlike places
        due("k;a b c;k;", "k;k;p q;r;", 6);
        due("k;a b c;", "a b c d;l m n o p;", 7);
        due("a b c d;l m n o p;", "k;a b c;", 7);
        due("x;k l m;x;n o;", "p;q r;x;x;s t u v;", 12);
    }

    private static void emptyEditions() {
        due("", "", 0);
        due("a b c;", "", 3);
        due("", "a b c;d;", 4);
        due("", EIGHT.repeat(14), 112);
        due(EIGHT.repeat(14), "", 112);
    }

    private static void fullEditions() {
        due(EIGHT.repeat(14), EIGHT.repeat(14), 0);
        due(EIGHT.repeat(14), "i j k l m n o p;".repeat(14), 224);
        due(EIGHT.repeat(14), "a b c d i j k l;".repeat(14), 112);
        due(EIGHT.repeat(13) + "z;", "y;" + EIGHT.repeat(13), 2);
        due(Check.FOURTEEN, Check.FOURTEEN.substring(2) + "a;", 0);
    }

    private static void askedAgain() {
        MovedLines x = Check.of("a b c;", "d e;");
        Check.due("changes()", x.changes(), 5);
        Check.due("changes() again", x.changes(), 5);
        x.cut(0, 0);
        Check.due("changes() behind a cut", x.changes(), 2);
        x.cut(1, 0);
        Check.due("changes() of no lines", x.changes(), 0);
        x.undo();
        Check.due("changes() behind undo", x.changes(), 2);
        Check.due("would(0, 0, 0)", x.would(0, 0, 0), -1);
        Check.due("changes() behind would", x.changes(), 2);
    }

    /** Four WORDS of eight that STAY are enough for an EDITED LINE, three are not. */
    private static void editedAtTheBound() {
        due(EIGHT, "a b c d i j k l;", 8);
        due(EIGHT, "a b c i j k l m;", 16);
        due(EIGHT, "a b c d;", 4);
        due(EIGHT, "a b c;", 11);
        due(EIGHT, "a b c d e f g i;", 2);
        due("a;", "a b;", 1);
        due("a;", "a b c;", 4);
    }
}
