/**
 * The terms that tell what an EDITION, a LINE, a WORD may be, and the FAULTS: their kinds, their places, their order.
 * Promises 4 (edition), 16 (put) and 17 (change) read a tape by them.
 */
public final class FaultsTest {
    private static final String BLANKS = " ".repeat(640);

    private FaultsTest() {
    }

    public static void main(String[] args) {
        lettersOfWords();
        wordsOfLines();
        linesOfEditions();
        eachByte();
        blanks();
        marks();
        endOfEdition();
        endOfLine();
        bytesOfEditions();
        bytesOfLines();
        firstAlongTheText();
        firstInTheList();
        Check.close();
    }

    private static String shown(String text) {
        return text.length() > 60 ? text.substring(0, 30) + ".." + text.length() + " bytes" : text;
    }

    /** The text as an EDITION has a FAULT there; place -1: none. */
    private static void edition(String text, int place, int kind) {
        Check.about("promise 4, FAULTS");
        for (int which = 0; which < 2; which++) {
            MovedLines x = Check.of("q;", "r;s;");
            long lines = text.chars().filter(c -> c == ';').count();
            Check.due("edition(" + which + ") of \"" + shown(text) + "\"", Check.edition(x, which, text), place < 0 ? lines : -2 - place);
            Check.due("fault() of \"" + shown(text) + "\"", x.fault(), kind);
            Check.due("now(" + which + ")", x.now(which), place < 0 ? lines : which + 1);
            Check.due("now(9)", x.now(9), 0);
        }
    }

    /** The text as a LINE, put and in place of one; words 0: a FAULT there. */
    private static void line(String text, int words, int place, int kind) {
        Check.about("promise 16, FAULTS");
        MovedLines x = Check.of("q;", "r;s;");
        Check.due("put(0, 1) of \"" + shown(text) + "\"", Check.put(x, 0, 1, text), words > 0 ? 2 : -2 - place);
        Check.due("fault() of \"" + shown(text) + "\"", x.fault(), kind);
        Check.due("now(0)", x.now(0), words > 0 ? 2 : 1);
        Check.due("line(0, 1, 0)", Check.lineOrThrows(x, 0, 1, 0), words > 0 ? words : Check.THROWN);
        Check.due("now(9)", x.now(9), 0);
        Check.about("promise 17, FAULTS");
        Check.due("change(1, 1) of \"" + shown(text) + "\"", Check.change(x, 1, 1, text), words > 0 ? words : -2 - place);
        Check.due("fault() of \"" + shown(text) + "\"", x.fault(), kind);
        Check.due("line(1, 1, 0)", Check.lineOrThrows(x, 1, 1, 0), Math.max(words, 1));
        Check.due("now(9)", x.now(9), 0);
        Check.due("now(8)", x.now(8), words > 0 ? 2 : 0);
    }

    // ---- how many

    private static void lettersOfWords() {
        for (int letters = 1; letters <= 6; letters++) {
            edition("ab " + "z".repeat(letters) + " c;", -1, 0);
            line("ab " + "z".repeat(letters) + " c", 3, -1, 0);
            line("a".repeat(letters), 1, -1, 0);
        }
        for (int letters = 7; letters <= 14; letters++) {
            edition("ab " + "z".repeat(letters) + " c;", 9, 2);
            edition("a".repeat(letters) + ";", 6, 2);
            edition("a".repeat(letters), 6, 2);
            line("ab " + "z".repeat(letters) + " c", 0, 9, 2);
            line("a".repeat(letters), 0, 6, 2);
        }
        // a blank or a ; ends a WORD: the letters behind it are another one's
        edition("abcdef abcdef\nabcdef;abcdef;", -1, 0);
        line("abcdef abcdef\nabcdef", 3, -1, 0);
    }

    private static void wordsOfLines() {
        for (int words = 1; words <= 8; words++) {
            edition("a;" + "bc ".repeat(words) + ";d;", -1, 0);
            edition("bc ".repeat(words).strip() + ";", -1, 0);
            line("bc ".repeat(words), words, -1, 0);
            line("bc ".repeat(words).strip(), words, -1, 0);
        }
        for (int words = 9; words <= 11; words++) {
            edition("a;" + "bc ".repeat(words) + ";d;", 26, 2);
            edition("bc  ".repeat(words) + ";", 32, 2);
            line("bc ".repeat(words), 0, 24, 2);
            line("b ".repeat(words).strip(), 0, 16, 2);
        }
        // blanks behind the 8th WORD are none of a 9th; the count begins anew with each LINE
        edition("a b c d e f g h \n ; a b c d e f g h;", -1, 0);
        line("a b c d e f g h \n ", 8, -1, 0);
        edition("abcdef ".repeat(8) + ";" + "abcdef ".repeat(8) + ";", -1, 0);
    }

    private static void linesOfEditions() {
        for (int lines = 0; lines <= 14; lines++) {
            edition("a b;".repeat(lines), -1, 0);
            edition("a;".repeat(lines) + "\n", -1, 0);
        }
        for (int lines = 15; lines <= 17; lines++) {
            edition("a b;".repeat(lines), 56, 2);
            edition(" a ;".repeat(lines), 57, 2);
        }
        edition("a;".repeat(14) + "   b", 31, 2);
        edition("a;".repeat(14) + "\n;", 29, 1);
        edition("a;".repeat(14) + ";", 28, 1);
        edition("a;".repeat(14) + "A", 28, 1);
        edition("a;".repeat(14) + BLANKS.substring(28, 600), -1, 0);
    }

    // ---- bytes

    private static void eachByte() {
        for (int b = 0; b < 256; b++) {
            boolean letter = b >= 97 && b <= 122;
            boolean blank = b == 32 || b == 10;
            String sign = String.valueOf((char) b);
            int kind = letter || blank || b == 59 ? 0 : 1;
            edition("a;b" + sign + ";", b == 59 ? 4 : kind == 0 ? -1 : 3, b == 59 ? 1 : kind);
            edition(sign + "a;", b == 59 || kind != 0 ? 0 : -1, b == 59 ? 1 : kind);
            line("a" + sign, letter || blank ? 1 : 0, 1, letter || blank ? 0 : 1);
            line(sign + "b c", letter || blank ? 2 : 0, 0, letter || blank ? 0 : 1);
        }
    }

    private static void blanks() {
        edition("", -1, 0);
        edition(" ", -1, 0);
        edition("\n", -1, 0);
        edition(BLANKS.substring(0, 600), -1, 0);
        edition("\n \n a \n  bc\n;\n \nd;  ", -1, 0);
        line("\n \n a \n  bc\n", 2, -1, 0);
        MovedLines x = new MovedLines();
        Check.edition(x, 0, "ab\nc  d;e\n\n;");
        Check.dueText("blanks part words, ; ends them", x, 0, "ab c d;e;");
    }

    private static void marks() {
        edition(";", 0, 1);
        edition(" ;", 1, 1);
        edition(";a;", 0, 1);
        edition("a;;", 2, 1);
        edition("a;\n ;", 4, 1);
        edition("a; b ;;", 6, 1);
        line(";", 0, 0, 1);
        line("a;", 0, 1, 1);
        line("a b;c", 0, 3, 1);
        line(" ;", 0, 1, 1);
    }

    private static void endOfEdition() {
        edition("a", 1, 1);
        edition("a ", 2, 1);
        edition("a;b", 3, 1);
        edition("a;b  \n", 6, 1);
        edition("a;".repeat(13) + "a", 27, 1);
        edition("abcdef", 6, 1);
        edition("a b c d e f g h", 15, 1);
        edition("a; ", -1, 0);
        edition(BLANKS.substring(0, 599) + "a", 600, 1);
        edition(BLANKS.substring(0, 598) + "a", 599, 1);
    }

    private static void endOfLine() {
        for (int length = 0; length <= 80; length++) {
            line(BLANKS.substring(0, length), 0, length, 1);
            line("\n".repeat(length), 0, length, 1);
        }
    }

    // ---- more bytes than told

    private static void bytesOfEditions() {
        edition("a;" + BLANKS.substring(0, 597), -1, 0);
        edition("a;" + BLANKS.substring(0, 598), -1, 0);
        edition(BLANKS.substring(0, 597) + "a;", -1, 0);
        edition(BLANKS.substring(0, 598) + "a;", -1, 0);
        for (int length = 601; length <= 640; length++) {
            edition("a;" + BLANKS.substring(0, length - 2), 600, 1);
            edition(BLANKS.substring(0, length - 2) + "a;", 600, 1);
            edition("A" + BLANKS.substring(0, length - 1), 0, 1);
        }
        edition(BLANKS.substring(0, 599) + "a;", 600, 1);
        edition(BLANKS.substring(0, 600) + "A", 600, 1);
        edition(BLANKS.substring(0, 600) + ";", 600, 1);
        edition(BLANKS.substring(0, 600) + "a", 600, 1);
        // there is no such bound of 80 in an EDITION, not even for one LINE
        edition("a" + BLANKS.substring(0, 300) + "b;", -1, 0);
    }

    private static void bytesOfLines() {
        line("a" + BLANKS.substring(0, 78), 1, -1, 0);
        line("a" + BLANKS.substring(0, 79), 1, -1, 0);
        line(BLANKS.substring(0, 79) + "a", 1, -1, 0);
        line(BLANKS.substring(0, 73) + "abcdef", 1, -1, 0);
        line(BLANKS.substring(0, 74) + "abcdef", 1, -1, 0);
        for (int length = 81; length <= 640; length += 13) {
            line("a" + BLANKS.substring(0, length - 1), 0, 80, 1);
            line(BLANKS.substring(0, length), 0, 80, 1);
            line("A" + BLANKS.substring(0, length - 1), 0, 0, 1);
        }
        line("a" + BLANKS.substring(0, 639), 0, 80, 1);
        line(BLANKS.substring(0, 79) + "ab", 0, 80, 1);
        line(BLANKS.substring(0, 80) + "a", 0, 80, 1);
        line(BLANKS.substring(0, 80) + "A", 0, 80, 1);
    }

    // ---- which of several

    private static void firstAlongTheText() {
        edition("abcdefg A;", 6, 2);
        edition("A abcdefg;", 0, 1);
        edition("abcdefg", 6, 2);
        edition("a b c d e f g h i", 16, 2);
        edition("a b c d e f g h ijklmno;", 16, 2);
        edition("a b c d e f g hijklmno p;", 20, 2);
        edition("a;".repeat(14) + "bcdefgh", 28, 2);
        edition(";abcdefg;", 0, 1);
        edition("abcdefg;;", 6, 2);
        edition("a b c d e f g h i;".repeat(3), 16, 2);
        edition("a;" + BLANKS.substring(0, 588) + "abcdefg;", 596, 2);
        edition("a;" + BLANKS.substring(0, 596) + ";;;", 598, 1);
        line("abcdefg A", 0, 6, 2);
        line("A abcdefg", 0, 0, 1);
        line("a b c d e f g h i;", 0, 16, 2);
        line("a b c d e f g h; i", 0, 15, 1);
        line("a b c d e f g h I", 0, 16, 1);
        line(BLANKS.substring(0, 70) + "abcdefghijklmn", 0, 76, 2);
    }

    /** At the first byte more the kind is 1, whatever else stands there; one byte ahead of it the kind is 2. */
    private static void firstInTheList() {
        edition(BLANKS.substring(0, 594) + "abcdefg;", 600, 1);
        edition(BLANKS.substring(0, 593) + "abcdefg;", 599, 2);
        edition("a b c d e f g h" + BLANKS.substring(0, 585) + "i", 600, 1);
        edition("a b c d e f g h" + BLANKS.substring(0, 584) + "i;", 599, 2);
        edition("a;".repeat(14) + BLANKS.substring(0, 572) + "b;", 600, 1);
        edition("a;".repeat(14) + BLANKS.substring(0, 571) + "b;", 599, 2);
        line(BLANKS.substring(0, 74) + "abcdefg", 0, 80, 1);
        line(BLANKS.substring(0, 73) + "abcdefg", 0, 79, 2);
        line("a b c d e f g h" + BLANKS.substring(0, 65) + "i", 0, 80, 1);
        line("a b c d e f g h" + BLANKS.substring(0, 64) + "i", 0, 79, 2);
    }
}
