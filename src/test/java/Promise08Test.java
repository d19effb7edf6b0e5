/** Promise 8: letter tells the letters of a WORD, and how many. */
public final class Promise08Test {
    private static final int[] NO_LETTERS = {Check.LEAST, Check.LEAST + 1, -256, -3, -2, 6, 7, 8, 31, 32, 256, Check.GREATEST - 1, Check.GREATEST};

    private Promise08Test() {
    }

    public static void main(String[] args) {
        Check.about("promise 8");
        eachLetter();
        eachLength();
        fullestEditions();
        noSuchLetter();
        noSuchWord();
        noSuchLine();
        changedWord();
        Check.close();
    }

    private static void due(MovedLines x, int which, int line, int word, int k, int want) {
        Check.due("letter(" + which + ", " + line + ", " + word + ", " + k + ")", x.letter(which, line, word, k), want);
    }

    private static void eachLetter() {
        for (int letter = 1; letter <= 26; letter++) {
            String sign = String.valueOf((char) ('a' - 1 + letter));
            MovedLines x = Check.of(sign + ";", "a " + sign.repeat(6) + ";");
            due(x, 0, 0, 0, 0, letter);
            for (int k = 0; k < 6; k++) {
                due(x, 1, 0, 1, k, letter);
            }
            due(x, 0, 0, 0, -1, 1);
            due(x, 1, 0, 1, -1, 6);
        }
    }

    private static void eachLength() {
        for (int length = 1; length <= 6; length++) {
            String word = "zyxwvu".substring(0, length);
            MovedLines x = Check.of("a " + word + " b;", word + ";");
            due(x, 0, 0, 1, -1, length);
            due(x, 1, 0, 0, -1, length);
            for (int k = 0; k < 6; k++) {
                due(x, 0, 0, 1, k, k < length ? 26 - k : -1);
                due(x, 1, 0, 0, k, k < length ? 26 - k : -1);
            }
        }
    }

    /** 14 LINES of 8 WORDS of 6 letters, told LINE by LINE: 600 bytes would not hold them. */
    private static void fullestEditions() {
        for (int line = 0; line < 14; line++) {
            MovedLines x = new MovedLines();
            for (int k = 0; k < 14; k++) {
                Check.due("put(0, " + k + ")", Check.put(x, 0, k, fullLine(k)), k + 1);
                Check.due("put(1, " + k + ")", Check.put(x, 1, 0, fullLine(k)), k + 1);
            }
            String old = Check.lineText(x, 0, line);
            Check.due("line " + line + " of OLD is " + old, old.equals(fullLine(line)), true);
            String fresh = Check.lineText(x, 1, line);
            Check.due("line " + line + " of NEW is " + fresh, fresh.equals(fullLine(13 - line)), true);
        }
    }

    private static String fullLine(int line) {
        StringBuilder text = new StringBuilder();
        for (int k = 0; k < 48; k++) {
            text.append(k > 0 && k % 6 == 0 ? " " : "").append((char) ('a' + (line * 7 + k * 5) % 26));
        }
        return text.toString();
    }

    private static void noSuchLetter() {
        MovedLines x = Check.of("a bcdefg zz;", "z;");
        for (int k : NO_LETTERS) {
            due(x, 0, 0, 0, k, -1);
            due(x, 0, 0, 1, k, -1);
            due(x, 0, 0, 2, k, -1);
            due(x, 1, 0, 0, k, -1);
            Picture.dueUnchanged("letter(1, 0, 0, " + k + ")", y -> due(y, 1, 0, 0, k, -1));
        }
        due(x, 0, 0, 0, 1, -1);
        due(x, 0, 0, 2, 1, 26);
        due(x, 0, 0, 2, 2, -1);
    }

    private static void noSuchWord() {
        MovedLines x = Check.of("a bcdefg;z;", "a b c d e f g h;");
        for (int k : new int[] {-1, 0}) {
            for (int word : Check.outside(2)) {
                due(x, 0, 0, word, k, -1);
            }
            for (int word : Check.outside(1)) {
                due(x, 0, 1, word, k, -1);
            }
            for (int word : Check.outside(8)) {
                due(x, 1, 0, word, k, -1);
            }
        }
        due(x, 1, 0, 7, 0, 8);
        for (int word : Check.outside(8)) {
            Picture.dueUnchanged("letter(0, 0, " + word + ", NONE)", y -> due(y, 0, 0, word, -1, -1));
        }
    }

    private static void noSuchLine() {
        for (Scene scene : Scene.values()) {
            MovedLines x = scene.make();
            for (int k : new int[] {-1, 0}) {
                for (int which = 0; which < 2; which++) {
                    for (int line : Check.outside(x.now(which))) {
                        due(x, which, line, 0, k, -1);
                    }
                }
                for (int which : Check.outside(2)) {
                    due(x, which, 0, 0, k, -1);
                }
            }
        }
        for (int line : Check.outside(14)) {
            Picture.dueUnchanged("letter(1, " + line + ", 0, 0)", x -> due(x, 1, line, 0, 0, -1));
        }
        for (int which : Check.outside(2)) {
            Picture.dueUnchanged("letter(" + which + ", 0, 0, 0)", x -> due(x, which, 0, 0, 0, -1));
        }
    }

    private static void changedWord() {
        MovedLines x = Check.of("a bcdefg;", "");
        Check.due("change with a FAULT", x.change(0, 0), -2);
        due(x, 0, 0, 1, 5, 7);
        Check.change(x, 0, 0, "b c");
        due(x, 0, 0, 1, 0, 3);
        due(x, 0, 0, 1, 1, -1);
        due(x, 0, 0, 1, -1, 1);
        Check.change(x, 0, 0, "d");
        due(x, 0, 0, 1, 0, -1);
        due(x, 0, 0, 1, -1, -1);
    }
}
