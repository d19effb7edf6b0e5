import java.util.function.Consumer;

/** "A call that throws, a refused one changes nothing but the tape where told. What is asked changes nothing." */
public final class AskedTest {
    private AskedTest() {
    }

    public static void main(String[] args) {
        asked("promise 5", "fault()", x -> x.fault());
        for (int what = 0; what <= 9; what++) {
            int told = what;
            asked("promise 6", "now(" + what + ")", x -> x.now(told));
        }
        for (int which = 0; which < 2; which++) {
            askedOfLines(which);
        }
        for (int what = 0; what < 3; what++) {
            int told = what;
            asked("promise 9", "block(0, " + what + ")", x -> x.block(0, told));
        }
        asked("promise 10", "shared(0, 0)", x -> x.shared(0, 0));
        asked("promise 10", "shared(5, 7)", x -> x.shared(5, 7));
        asked("promise 10", "shared(13, 13)", x -> x.shared(13, 13));
        asked("promise 11", "stays(0, 0, 0)", x -> x.stays(0, 0, 0));
        asked("promise 11", "stays(5, 0, 7)", x -> x.stays(5, 0, 7));
        asked("promise 11", "stays(13, 7, 13)", x -> x.stays(13, 7, 13));
        asked("promise 12", "most()", x -> x.most());
        asked("promise 13", "changes()", x -> x.changes());
        asked("promise 14", "anchors(0)", x -> x.anchors(0));
        asked("promise 14", "anchors(1)", x -> x.anchors(1));
        asked("all promises", "all of it", AskedTest::askAll);
        Check.close();
    }

    private static void asked(String promise, String name, Consumer<MovedLines> call) {
        Check.about(promise + ", what is asked");
        Picture.dueUnchanged(name, call);
    }

    private static void askedOfLines(int which) {
        for (int line : new int[] {0, 5, 13}) {
            for (int what = 0; what < 4; what++) {
                int told = what;
                asked("promise 7", "line(" + which + ", " + line + ", " + what + ")", x -> Check.lineOrThrows(x, which, line, told));
            }
            asked("promise 8", "letter(" + which + ", " + line + ", 0, 0)", x -> x.letter(which, line, 0, 0));
            asked("promise 8", "letter(" + which + ", " + line + ", 7, NONE)", x -> x.letter(which, line, 7, -1));
            for (int other : new int[] {0, 1, 4, 13}) {
                asked("promise 15", "would(" + which + ", " + line + ", " + other + ")", x -> x.would(which, line, other));
            }
        }
    }

    private static void askAll(MovedLines x) {
        for (int line = 0; line < 14; line++) {
            x.would(line & 1, line, 13 - line);
            x.shared(line, line);
            x.stays(line, line & 7, 13 - line);
            x.now(line);
            x.most();
            x.block(line, 2);
            Check.lineOrThrows(x, line & 1, line, 2);
        }
    }
}
