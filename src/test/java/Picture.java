import java.util.LinkedHashMap;
import java.util.Map;
import java.util.function.Consumer;
import java.util.function.Supplier;

/**
 * All that can be seen of an object, what is hidden too (the bytes of the tape, what undo gives back). Seeing it takes
 * more calls than an object has, and uses it up: so it is made anew for each part.
 */
final class Picture {
    /** Parts that a call that reads the tape changes, if it finds a FAULT. */
    static final String[] TAPE_AND_FAULT = {"now(9)", "fault()", "the tape as OLD", "the tape as a LINE", "600 bytes of the tape as NEW"};

    private static final Map<Scene, Picture> KNOWN = new LinkedHashMap<>();

    private final Map<String, String> seen = new LinkedHashMap<>();

    private Picture(Supplier<MovedLines> made) {
        seeNumbers(made.get());
        seeLines(made.get());
        seeBlocks(made.get());
        seeLikeness(made.get());
        seeWould(made.get());
        seeTexts("", made, x -> { });
        seeTape(made);
        seeSteps(made);
    }

    /** The call, in each of the given states, changes nothing that can be seen, but for the parts that are named. */
    static void dueUnchanged(String name, Consumer<MovedLines> call, Scene[] scenes, String... butFor) {
        for (Scene scene : scenes) {
            Picture before = KNOWN.computeIfAbsent(scene, key -> new Picture(key::make));
            Picture after = new Picture(() -> {
                MovedLines x = scene.make();
                call.accept(x);
                return x;
            });
            after.dueLike(before, scene + " behind " + name, butFor);
        }
    }

    /** Likewise in any state. */
    static void dueUnchanged(String name, Consumer<MovedLines> call) {
        dueUnchanged(name, call, Scene.values());
    }

    static void dueAlike(String name, Supplier<MovedLines> one, Supplier<MovedLines> other, String... butFor) {
        new Picture(one).dueLike(new Picture(other), name, butFor);
    }

    private void dueLike(Picture other, String when, String... butFor) {
        for (String part : butFor) {
            seen.put(part, other.seen.getOrDefault(part, ""));
        }
        Check.due(when + ": as many parts as before", seen.size(), other.seen.size());
        for (Map.Entry<String, String> part : seen.entrySet()) {
            String before = other.seen.getOrDefault(part.getKey(), "nothing");
            Check.due(when + ": " + part.getKey() + " is " + part.getValue() + ", due is " + before,
                part.getValue().equals(before), true);
        }
    }

    private void see(String part, long answer) {
        seen.put(part, String.valueOf(answer));
    }

    private void seeNumbers(MovedLines x) {
        for (int what = 0; what <= 9; what++) {
            see("now(" + what + ")", x.now(what));
        }
        see("fault()", x.fault());
        see("most()", x.most());
        see("changes()", x.changes());
        see("anchors(0)", x.anchors(0));
        see("anchors(1)", x.anchors(1));
    }

    private void seeLines(MovedLines x) {
        for (int which = 0; which < 2; which++) {
            for (int line = 0; line <= 14; line++) {
                for (int what = 0; what < 4; what++) {
                    see("line(" + which + ", " + line + ", " + what + ")", Check.lineOrThrows(x, which, line, what));
                }
            }
        }
    }

    private void seeBlocks(MovedLines x) {
        for (int block = 0; block <= 14; block++) {
            for (int what = 0; what < 3; what++) {
                see("block(" + block + ", " + what + ")", x.block(block, what));
            }
        }
    }

    private void seeLikeness(MovedLines x) {
        for (int line = 0; line < 14; line++) {
            int other = (3 * line + 1) % 14;
            see("shared(" + line + ", " + other + ")", x.shared(line, other));
            for (int k = 0; k < 8; k++) {
                see("stays(" + line + ", " + k + ", " + other + ")", x.stays(line, k, other));
            }
        }
    }

    private void seeWould(MovedLines x) {
        for (int line = 0; line < 14; line++) {
            int other = (5 * line + 2) % 14;
            see("would(0, " + line + ", " + other + ")", x.would(0, line, other));
            see("would(1, " + line + ", " + other + ")", x.would(1, line, other));
        }
    }

    private void seeTexts(String when, Supplier<MovedLines> made, Consumer<MovedLines> first) {
        for (int which = 0; which < 2; which++) {
            MovedLines x = made.get();
            first.accept(x);
            seen.put(when + "edition " + which, Check.text(x, which));
        }
    }

    private void seeTape(Supplier<MovedLines> made) {
        MovedLines x = made.get();
        seen.put("the tape as OLD", x.edition(0) + ", fault " + x.fault() + ", " + Check.text(x, 0));
        x = made.get();
        seen.put("the tape as a LINE", x.change(1, 0) + ", fault " + x.fault() + ", " + Check.text(x, 1));
        x = made.get();
        x.end(600);
        seen.put("600 bytes of the tape as NEW", x.edition(1) + ", fault " + x.fault() + ", " + Check.text(x, 1));
    }

    private void seeSteps(Supplier<MovedLines> made) {
        int steps = made.get().now(8);
        for (int back = 1; back <= steps + 1; back++) {
            MovedLines x = made.get();
            see(back + " steps back, undo()", undo(x, back));
            int times = back;
            seeTexts(back + " steps back, ", made, y -> undo(y, times));
        }
    }

    private static int undo(MovedLines x, int times) {
        int left = -2;
        for (int k = 0; k < times; k++) {
            left = x.undo();
        }
        return left;
    }
}
