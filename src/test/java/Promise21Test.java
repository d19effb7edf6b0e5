import java.util.function.Consumer;

/** Promise 21: undo undoes the latest step; ten are kept. */
public final class Promise21Test {
    private Promise21Test() {
    }

    public static void main(String[] args) {
        Check.about("promise 21");
        eachKindOfStep();
        nothingToUndo();
        tenAreKept();
        manyTimesRound();
        refusedIsNoStep();
        stepsOverUndone();
        comparedAnew();
        tapeAndFaultStay();
        editionForgets();
        Check.close();
    }

    private static void eachKindOfStep() {
        MovedLines x = Check.of("a;b;c;", "d;e;");
        Check.put(x, 1, 1, "x y");
        Check.change(x, 0, 2, "z");
        x.cut(0, 0);
        x.move(1, 0, 1, 2);
        x.take();
        Check.dueText("five steps", x, 0, "x y;e;d;");
        Check.due("undo() of take", x.undo(), 4);
        Check.dueText("undo of take", x, 0, "b;z;");
        Check.dueText("undo of take", x, 1, "x y;e;d;");
        Check.due("undo() of move", x.undo(), 3);
        Check.dueText("undo of move", x, 1, "d;x y;e;");
        Check.due("undo() of cut", x.undo(), 2);
        Check.dueText("undo of cut", x, 0, "a;b;z;");
        Check.due("undo() of change", x.undo(), 1);
        Check.dueText("undo of change", x, 0, "a;b;c;");
        Check.due("undo() of put", x.undo(), 0);
        Check.dueText("undo of put", x, 1, "d;e;");
        Check.due("undo() of none", x.undo(), -1);
        Check.dueWays(x, "- - -", "- -");
    }

    private static void nothingToUndo() {
        Picture.dueUnchanged("undo()", x -> Check.due("undo()", x.undo(), -1), new Scene[] {Scene.EMPTY, Scene.HALF});
        for (Scene scene : new Scene[] {Scene.PLAIN, Scene.FULL}) {
            Picture.dueAlike(scene + ", undone once too often", () -> undoAll(scene.make(), 1), () -> undoAll(scene.make(), 0));
        }
    }

    private static MovedLines undoAll(MovedLines x, int more) {
        for (int left = x.now(8); left > 0; left--) {
            Check.due("undo()", x.undo(), left - 1);
        }
        for (int k = 0; k < more; k++) {
            Check.due("undo() of none", x.undo(), -1);
        }
        return x;
    }

    private static void tenAreKept() {
        for (int done = 0; done <= 14; done++) {
            MovedLines x = new MovedLines();
            for (int k = 0; k < done; k++) {
                Check.due("put", Check.put(x, k & 1, 0, String.valueOf((char) ('a' + k))), k / 2 + 1);
            }
            int kept = Math.min(done, 10);
            Check.due("now(8)", x.now(8), kept);
            for (int left = kept - 1; left >= 0; left--) {
                Check.due("undo(), " + done + " done", x.undo(), left);
            }
            Check.due("undo() of no more", x.undo(), -1);
            int stay = done - kept;
            Check.due("now(0)", x.now(0), (stay + 1) / 2);
            Check.due("now(1)", x.now(1), stay / 2);
        }
    }

    /** Steps done and undone by turns. Each step rotates fourteen LINES by one, so that the first one tells how many are done. */
    private static void manyTimesRound() {
        for (int first = 0; first <= 22; first++) {
            for (int back = 0; back <= 11; back++) {
                for (int then = 0; then <= 12; then += 3) {
                    rotate(first, back, then);
                }
            }
        }
    }

    private static void rotate(int first, int back, int then) {
        MovedLines x = Check.of(Check.FOURTEEN, "");
        String name = first + " done, " + back + " undone, " + then + " done: ";
        step(x, first);
        int kept = Math.min(first, 10);
        int done = first;
        for (int k = 0; k < back; k++) {
            Check.due(name + "undo()", x.undo(), kept > 0 ? kept - 1 : -1);
            done -= kept > 0 ? 1 : 0;
            kept -= kept > 0 ? 1 : 0;
            Check.due(name + "letter(0, 0, 0, 0)", x.letter(0, 0, 0, 0), done % 14 + 1);
        }
        step(x, then);
        kept = Math.min(kept + then, 10);
        done += then;
        for (int left = kept; left > 0; left--) {
            Check.due(name + "letter(0, 0, 0, 0)", x.letter(0, 0, 0, 0), done % 14 + 1);
            Check.due(name + "undo()", x.undo(), left - 1);
            done--;
        }
        Check.due(name + "letter(0, 0, 0, 0)", x.letter(0, 0, 0, 0), done % 14 + 1);
        Check.due(name + "undo()", x.undo(), -1);
    }

    private static void step(MovedLines x, int times) {
        for (int k = 0; k < times; k++) {
            Check.due("move(0, 0, 1, 13)", x.move(0, 0, 1, 13), true);
        }
    }

    private static void dueNoStep(String name, Consumer<MovedLines> call) {
        MovedLines x = Check.of("a;b;", "c;");
        call.accept(x);
        Check.due("now(8) behind " + name, x.now(8), 0);
        Check.due("undo() behind " + name, x.undo(), -1);
        x = Check.of("a;b;", "c;");
        x.cut(0, 0);
        call.accept(x);
        Check.due("undo() of the step ahead of " + name, x.undo(), 0);
        Check.dueText("undo of the step ahead of " + name, x, 0, "a;b;");
    }

    private static void refusedIsNoStep() {
        dueNoStep("cut of no line", x -> x.cut(0, 2));
        dueNoStep("cut of no edition", x -> x.cut(2, 0));
        dueNoStep("move of none", x -> x.move(0, 0, 0, 0));
        dueNoStep("move of too many", x -> x.move(0, 0, 3, 0));
        dueNoStep("put at no place", x -> x.put(0, 3));
        dueNoStep("put with a FAULT", x -> Check.put(x, 0, 0, "A"));
        dueNoStep("put of nothing", x -> x.put(1, 0));
        dueNoStep("change of no line", x -> x.change(0, 2));
        dueNoStep("change with a FAULT", x -> Check.change(x, 0, 0, "abcdefg"));
        dueNoStep("edition with a FAULT", x -> Check.edition(x, 0, "a"));
        dueNoStep("no such edition", x -> x.edition(2));
        dueNoStep("feed and end", x -> Check.tell(x, "abc"));
        dueNoStep("would", x -> x.would(0, 0, 0));
        MovedLines x = Check.of(Check.FOURTEEN, "");
        Check.due("put into 14", Check.put(x, 0, 0, "a"), -1000);
        Check.due("undo() behind it", x.undo(), -1);
    }

    private static void stepsOverUndone() {
        MovedLines x = Check.of("a;b;c;d;", "");
        x.cut(0, 0);
        x.cut(0, 0);
        Check.due("undo()", x.undo(), 1);
        x.cut(0, 2);
        Check.dueText("a step over one that was undone", x, 0, "b;c;");
        Check.due("undo()", x.undo(), 1);
        Check.dueText("undo", x, 0, "b;c;d;");
        Check.due("undo()", x.undo(), 0);
        Check.dueText("undo", x, 0, "a;b;c;d;");
        Check.due("undo()", x.undo(), -1);
    }

    private static void comparedAnew() {
        MovedLines x = Check.of("a;b;", "b;c;");
        Check.dueWays(x, "- K0", "K1 -");
        x.cut(0, 1);
        x.take();
        Check.dueWays(x, "K0 K1", "K0 K1");
        Check.due("undo()", x.undo(), 1);
        Check.dueWays(x, "-", "- -");
        Check.due("undo()", x.undo(), 0);
        Check.dueWays(x, "- K0", "K1 -");
    }

    private static void tapeAndFaultStay() {
        MovedLines x = Check.of("a;", "");
        x.cut(0, 0);
        Check.put(x, 0, 0, "abcdefg");
        Check.tell(x, "b c;");
        Check.due("undo()", x.undo(), 0);
        Check.due("now(9)", x.now(9), 4);
        Check.due("fault()", x.fault(), 2);
        Check.due("edition(1) of the tape", x.edition(1), 1);
        Check.dueText("the tape", x, 1, "b c;");
    }

    private static void editionForgets() {
        for (int which = 0; which < 2; which++) {
            MovedLines x = Scene.FULL.make();
            Check.due("now(8)", x.now(8), 10);
            x.end(0);
            Check.due("edition of nothing", x.edition(which), 0);
            Check.due("undo() behind it", x.undo(), -1);
            Check.due("take()", x.take(), which == 1 ? 0 : 14);
            Check.due("undo()", x.undo(), 0);
            Check.due("undo()", x.undo(), -1);
        }
    }
}
