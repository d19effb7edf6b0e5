/** Promise 20: take makes OLD as NEW is. */
public final class Promise20Test {
    private Promise20Test() {
    }

    public static void main(String[] args) {
        Check.about("promise 20");
        ordinary();
        fromAnyToAny();
        inEachState();
        standsAlone();
        Check.close();
    }

    private static void ordinary() {
        MovedLines x = Check.of("a;b;", "c d;e;f;");
        Check.dueWays(x, "- -", "- - -");
        Check.tell(x, "xyz");
        Check.due("take()", x.take(), 3);
        Check.dueText("take", x, 0, "c d;e;f;");
        Check.dueText("take", x, 1, "c d;e;f;");
        Check.dueWays(x, "K0 K1 K2", "K0 K1 K2");
        Check.due("now(8)", x.now(8), 1);
        Check.due("now(9), the tape stays", x.now(9), 3);
        Check.due("take() of the same", x.take(), 3);
        Check.due("now(8)", x.now(8), 2);
    }

    private static void fromAnyToAny() {
        for (int olds = 0; olds <= 14; olds++) {
            for (int news = 0; news <= 14; news++) {
                String old = Check.FOURTEEN.substring(0, 2 * olds);
                String fresh = Check.FOURTEEN.replace(";", " z;").substring(0, 4 * news);
                MovedLines x = Check.of(old, fresh);
                Check.due("take() of " + news + " for " + olds, x.take(), news);
                Check.dueText("take", x, 0, fresh);
                Check.dueText("take", x, 1, fresh);
                Check.due("now(8)", x.now(8), 1);
                Check.due("undo()", x.undo(), 0);
                Check.dueText("undo of take", x, 0, old);
                Check.dueText("undo of take", x, 1, fresh);
            }
        }
    }

    private static void inEachState() {
        for (Scene scene : Scene.values()) {
            MovedLines x = scene.make();
            MovedLines y = scene.make();
            int lines = x.now(1);
            Check.due(scene + " take()", x.take(), lines);
            Check.dueText(scene + " take", x, 0, Check.text(y, 1));
            Check.due("now(2)", x.now(2), lines);
            Check.due("now(8)", x.now(8), Math.min(y.now(8) + 1, 10));
            Check.due("now(9)", x.now(9), y.now(9));
            Check.due("fault()", x.fault(), y.fault());
        }
        // but for the tenth step back, which is given up for it
        Picture.dueAlike("take undone", () -> {
            MovedLines x = Scene.PLAIN.make();
            x.take();
            x.undo();
            return x;
        }, Scene.PLAIN::make);
    }

    private static void standsAlone() {
        MovedLines x = Check.of("a;", "b;c;");
        x.take();
        x.cut(1, 0);
        Check.dueText("NEW cut behind take", x, 0, "b;c;");
        Check.change(x, 0, 1, "d");
        Check.dueText("OLD changed behind take", x, 1, "c;");
    }
}
