import java.util.NoSuchElementException;

/** What the tests of the project share: a count of wrong answers, and texts told to an object. */
final class Check {
    /** Fourteen lines, no two of them alike: as many as an EDITION may have. */
    static final String FOURTEEN = "a;b;c;d;e;f;g;h;i;j;k;l;m;n;";
    static final int LEAST = Integer.MIN_VALUE;
    static final int GREATEST = Integer.MAX_VALUE;
    /** What line() answers here where it throws NoSuchElementException. */
    static final long THROWN = Long.MIN_VALUE;

    private static int asked = 0;
    private static int wrong = 0;
    private static String about = "";

    private Check() {
    }

    /** What is looked at from here on, told ahead of each wrong answer: a promise by its number, or a term. */
    static void about(String what) {
        about = what + ": ";
    }

    static void due(String call, long got, long want) {
        asked++;
        if (got != want) {
            wrong++;
            System.out.println(about + call + " answered " + got + ", due is " + want);
        }
    }

    static void due(String call, boolean got, boolean want) {
        due(call, got ? 1 : 0, want ? 1 : 0);
    }

    static void close() {
        System.out.println(asked + " answers looked at, " + wrong + " not as due");
        if (wrong != 0 || asked == 0) {
            System.exit(1);
        }
    }

    /** Numbers that are none of 0 to count - 1: next to them, further off, the least and the greatest, and some with like low bits. */
    static int[] outside(int count) {
        return new int[] {LEAST, LEAST + 1, -65536, -256, -2, -1, count, count + 1, count + 14, 256, 65536, 1 << 30, GREATEST - 1, GREATEST};
    }

    static long lineOrThrows(MovedLines x, int which, int line, int what) {
        try {
            return x.line(which, line, what);
        } catch (NoSuchElementException e) {
            return THROWN;
        }
    }

    static void throwsAtLine(MovedLines x, int which, int line, int what) {
        due("line(" + which + ", " + line + ", " + what + ")", lineOrThrows(x, which, line, what), THROWN);
    }

    /** Puts a text behind the tape. */
    static void tell(MovedLines x, String text) {
        int before = x.now(9);
        for (int from = 0; from < text.length(); from += 20) {
            x.feed(four(text, from), four(text, from + 4), four(text, from + 8), four(text, from + 12), four(text, from + 16));
        }
        x.end(before + text.length());
    }

    static int four(String text, int from) {
        int number = 0;
        for (int k = from; k < from + 4; k++) {
            number = number << 8 | (k < text.length() ? text.charAt(k) & 255 : 0);
        }
        return number;
    }

    static int edition(MovedLines x, int which, String text) {
        tell(x, text);
        return x.edition(which);
    }

    static int put(MovedLines x, int which, int at, String text) {
        tell(x, text);
        return x.put(which, at);
    }

    static int change(MovedLines x, int which, int line, String text) {
        tell(x, text);
        return x.change(which, line);
    }

    static MovedLines of(String old, String fresh) {
        MovedLines x = new MovedLines();
        due("edition(0) of \"" + old + "\"", edition(x, 0, old), old.chars().filter(c -> c == ';').count());
        due("edition(1) of \"" + fresh + "\"", edition(x, 1, fresh), fresh.chars().filter(c -> c == ';').count());
        return x;
    }

    /** The edition as the object tells it, letter by letter. */
    static String text(MovedLines x, int which) {
        StringBuilder text = new StringBuilder();
        for (int line = 0, lines = x.now(which); line < lines; line++) {
            text.append(lineText(x, which, line)).append(';');
        }
        return text.toString();
    }

    static String lineText(MovedLines x, int which, int line) {
        StringBuilder text = new StringBuilder();
        for (int word = 0, words = x.line(which, line, 0); word < words; word++) {
            text.append(word == 0 ? "" : " ");
            for (int k = 0, letters = x.letter(which, line, word, -1); k < letters; k++) {
                text.append((char) ('a' - 1 + x.letter(which, line, word, k)));
            }
        }
        return text.toString();
    }

    static void dueText(String when, MovedLines x, int which, String want) {
        String got = text(x, which);
        due(when + ": edition " + which + " is \"" + got + "\", due is \"" + want + "\"", got.equals(want), true);
    }

    /** How the lines of an edition are, and with which: like "K0 M3 E1 -". */
    static String ways(MovedLines x, int which) {
        StringBuilder ways = new StringBuilder();
        for (int line = 0, lines = x.now(which); line < lines; line++) {
            int how = x.line(which, line, 1);
            ways.append(line == 0 ? "" : " ").append("KME-".charAt(how));
            if (how != 3) {
                ways.append(x.line(which, line, 2));
            } else {
                due("line(" + which + ", " + line + ", 2)", x.line(which, line, 2), -1);
            }
        }
        return ways.toString();
    }

    static void dueWays(MovedLines x, String old, String fresh) {
        String got = ways(x, 0) + " / " + ways(x, 1);
        String want = old + " / " + fresh;
        due("ways of \"" + text(x, 0) + "\" and \"" + text(x, 1) + "\": " + got + ", due " + want, got.equals(want), true);
    }
}
