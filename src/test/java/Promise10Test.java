/** Promise 10: shared tells how many WORDS two LINES SHARE. */
public final class Promise10Test {
    private Promise10Test() {
    }

    public static void main(String[] args) {
        Check.about("promise 10");
        ordinary();
        noneToEight();
        lastOfFourteen();
        longAheadOfShort();
        noSuchLines();
        Check.close();
    }

    private static void due(MovedLines x, int old, int fresh, int want) {
        Check.due("shared(" + old + ", " + fresh + ")", x.shared(old, fresh), want);
    }

    private static void ordinary() {
        MovedLines x = Check.of("a b c a b d;a a a;q;a b c d e f g h;", "b d c a b a;a;a a a a a a a a;h g f e d c b a;a b c d e f g h;");
        due(x, 0, 0, 4);
        due(x, 0, 1, 1);
        due(x, 1, 2, 3);
        due(x, 2, 2, 0);
        due(x, 3, 3, 1);
        due(x, 3, 4, 8);
    }

    private static void noneToEight() {
        String line = "a b c d e f g h";
        for (int words = 1; words <= 8; words++) {
            MovedLines x = Check.of(line + ";", line.substring(0, 2 * words - 1) + ";" + line.substring(16 - 2 * words) + ";");
            due(x, 0, 0, words);
            due(x, 0, 1, words);
            x = Check.of(line.substring(0, 2 * words - 1) + ";", line + ";i;");
            due(x, 0, 0, words);
            due(x, 0, 1, 0);
        }
        due(Check.of("abcdef;", "abcde;"), 0, 0, 0);
        due(Check.of("abcdef;", "abcdef;"), 0, 0, 1);
        due(Check.of("abcdef;", "bcdefa;"), 0, 0, 0);
    }

    private static void lastOfFourteen() {
        MovedLines x = Check.of(Check.FOURTEEN, Check.FOURTEEN);
        due(x, 13, 13, 1);
        due(x, 13, 0, 0);
        due(x, 0, 13, 0);
        due(x, 14, 13, -1);
        due(x, 13, 14, -1);
    }

    /** What was asked ahead of it does not count. */
    private static void longAheadOfShort() {
        String line = "a b c d e f g h";
        StringBuilder lines = new StringBuilder();
        for (int words = 8; words >= 1; words--) {
            lines.append(line, 0, 2 * words - 1).append(';');
        }
        MovedLines x = Check.of(lines.toString(), lines.toString());
        for (int old = 0; old < 8; old++) {
            for (int fresh = 0; fresh < 8; fresh++) {
                due(x, old, fresh, Math.min(8 - old, 8 - fresh));
                due(x, 0, 0, 8);
            }
        }
    }

    private static void noSuchLines() {
        for (Scene scene : Scene.values()) {
            MovedLines x = scene.make();
            for (int line : Check.outside(x.now(0))) {
                due(x, line, 0, -1);
            }
            for (int line : Check.outside(x.now(1))) {
                due(x, 0, line, -1);
            }
        }
        for (int line : Check.outside(14)) {
            Picture.dueUnchanged("shared(" + line + ", 0)", x -> due(x, line, 0, -1));
            Picture.dueUnchanged("shared(0, " + line + ")", x -> due(x, 0, line, -1));
        }
        due(Check.of("a;", ""), 0, 0, -1);
        due(Check.of("", "a;"), 0, 0, -1);
        MovedLines x = Check.of("a;b;c;", "a;");
        due(x, 2, 0, 0);
        due(x, 0, 2, -1);
    }
}
