/** Promise 5: fault is the kind of the FAULT of the latest call that read the tape. */
public final class Promise05Test {
    private static final String[] TEXTS = {"-", "abcdefg", ""};

    private Promise05Test() {
    }

    public static void main(String[] args) {
        Check.about("promise 5");
        aheadOfAny();
        ofEachCallThatReads();
        stayBehindOthers();
        staysBehindRefused();
        Check.close();
    }

    private static void aheadOfAny() {
        MovedLines x = new MovedLines();
        Check.due("fault() of a new object", x.fault(), 0);
        x.feed(-1, -1, -1, -1, -1);
        Check.due("fault() of a tape that was not read", x.fault(), 0);
        x.edition(2);
        x.put(0, 1);
        x.change(0, 0);
        Check.due("fault() behind calls that did not read", x.fault(), 0);
    }

    private static int read(MovedLines x, int call, String text) {
        switch (call) {
            case 0:
                return Check.edition(x, 0, text.isEmpty() ? "a;" : text);
            case 1:
                return Check.put(x, 0, 0, text.isEmpty() ? "a" : text);
            default:
                return Check.change(x, 0, 0, text.isEmpty() ? "a" : text);
        }
    }

    /** Each of the three calls, behind each, with each kind. */
    private static void ofEachCallThatReads() {
        for (int first = 0; first < 9; first++) {
            for (int second = 0; second < 9; second++) {
                MovedLines x = Check.of("q;", "r;");
                read(x, first % 3, TEXTS[first / 3]);
                Check.due("fault() behind call " + first % 3 + " of \"" + TEXTS[first / 3] + "\"", x.fault(), (first / 3 + 1) % 3);
                read(x, second % 3, TEXTS[second / 3]);
                Check.due("fault() behind call " + second % 3 + " of \"" + TEXTS[second / 3] + "\"", x.fault(), (second / 3 + 1) % 3);
            }
        }
    }

    private static MovedLines withFault(int kind) {
        MovedLines x = Check.of("a;b;", "c;");
        Check.change(x, 0, 0, kind == 1 ? "a." : "abcdefgh");
        Check.due("fault()", x.fault(), kind);
        return x;
    }

    private static void stayBehindOthers() {
        for (int kind = 1; kind <= 2; kind++) {
            MovedLines x = withFault(kind);
            x.feed(0x61616161, 0x61616161, 0x61616161, 0x61616161, 0x61616161);
            Check.due("fault() behind feed", x.fault(), kind);
            x.end(0);
            Check.due("fault() behind end", x.fault(), kind);
            x.cut(0, 0);
            Check.due("fault() behind cut", x.fault(), kind);
            x.move(0, 0, 1, 0);
            Check.due("fault() behind move", x.fault(), kind);
            x.take();
            Check.due("fault() behind take", x.fault(), kind);
            x.undo();
            Check.due("fault() behind undo", x.fault(), kind);
            x.would(0, 0, 0);
            Check.due("fault() behind would", x.fault(), kind);
            Check.due("fault() behind fault", x.fault(), kind);
        }
    }

    private static void staysBehindRefused() {
        for (int kind = 1; kind <= 2; kind++) {
            MovedLines x = withFault(kind);
            Check.tell(x, "a");
            Check.due("edition(2), which reads no tape", x.edition(2), -1);
            Check.due("put(0, 3), which reads no tape", x.put(0, 3), -1);
            Check.due("change(0, 2), which reads no tape", x.change(0, 2), -1);
            Check.due("fault() stays", x.fault(), kind);
            Check.due("undo() of nothing", x.undo(), -1);
            Check.due("fault() stays", x.fault(), kind);
        }
        MovedLines x = Check.of(Check.FOURTEEN, "");
        Check.change(x, 0, 0, "a.");
        Check.due("put into 14, which reads no tape", Check.put(x, 0, 0, "a"), -1000);
        Check.due("fault() stays", x.fault(), 1);
    }
}
