/** Promise 1: a new object has two EDITIONS without LINES and an empty tape. */
public final class Promise01Test {
    private Promise01Test() {
    }

    public static void main(String[] args) {
        Check.about("promise 1");
        nothingIsThere();
        noLinesToAsk();
        noLinesToChange();
        emptyTape();
        objectsStandAlone();
        Check.close();
    }

    private static void nothingIsThere() {
        MovedLines x = new MovedLines();
        for (int what = 0; what <= 9; what++) {
            Check.due("now(" + what + ")", x.now(what), 0);
        }
        Check.due("fault()", x.fault(), 0);
        Check.due("most()", x.most(), 0);
        Check.due("changes()", x.changes(), 0);
        Check.due("anchors(0)", x.anchors(0), 0);
        Check.due("anchors(1)", x.anchors(1), 0);
        Check.due("NONE", MovedLines.NONE, -1);
    }

    private static void noLinesToAsk() {
        MovedLines x = new MovedLines();
        for (int which = 0; which < 2; which++) {
            for (int what = 0; what < 4; what++) {
                Check.throwsAtLine(x, which, 0, what);
            }
            Check.due("letter(" + which + ", 0, 0, 0)", x.letter(which, 0, 0, 0), -1);
            Check.due("letter(" + which + ", 0, 0, NONE)", x.letter(which, 0, 0, -1), -1);
            Check.due("would(" + which + ", 0, 0)", x.would(which, 0, 0), -1);
        }
        for (int what = 0; what < 3; what++) {
            Check.due("block(0, " + what + ")", x.block(0, what), -1);
        }
        Check.due("shared(0, 0)", x.shared(0, 0), -1);
        Check.due("stays(0, 0, 0)", x.stays(0, 0, 0), -1);
    }

    private static void noLinesToChange() {
        for (int which = 0; which < 2; which++) {
            MovedLines x = new MovedLines();
            Check.due("cut(" + which + ", 0)", x.cut(which, 0), -1);
            Check.due("change(" + which + ", 0)", x.change(which, 0), -1);
            Check.due("move(" + which + ", 0, 1, 0)", x.move(which, 0, 1, 0), false);
            Check.due("put(" + which + ", 1)", x.put(which, 1), -1);
            Check.due("undo()", x.undo(), -1);
            Check.due("put(" + which + ", 0)", Check.put(x, which, 0, "a"), 1);
            Check.due("now(" + which + ")", x.now(which), 1);
            Check.due("now(" + (1 - which) + ")", x.now(1 - which), 0);
        }
    }

    private static void emptyTape() {
        Check.due("end(0)", new MovedLines().end(0), true);
        Check.due("end(1)", new MovedLines().end(1), false);
        Check.due("edition(0)", new MovedLines().edition(0), 0);
        Check.due("edition(1)", new MovedLines().edition(1), 0);
        Check.due("put(0, 0), a LINE without WORDS ends at 0", new MovedLines().put(0, 0), -2);
        Check.due("feed(0, 0, 0, 0, 0)", new MovedLines().feed(0, 0, 0, 0, 0), 20);
    }

    private static void objectsStandAlone() {
        MovedLines x = new MovedLines();
        MovedLines y = Check.of("a;", "b;c;");
        y.take();
        Check.change(y, 0, 0, "A");
        Check.tell(y, "abc");
        for (int what = 0; what <= 9; what++) {
            Check.due("now(" + what + ") of another object", x.now(what), 0);
        }
        Check.due("fault() of another object", x.fault(), 0);
        Check.due("undo() of another object", x.undo(), -1);
    }
}
