/** States in which calls are tried: made anew each time, by few calls, so that some 400 of the 512 are left. */
enum Scene {
    /** A new object: no lines, no tape, nothing to undo. */
    EMPTY {
        @Override
        MovedLines make() {
            return new MovedLines();
        }
    },

    /** OLD without lines, NEW with fourteen; a tape of one byte. */
    HALF {
        @Override
        MovedLines make() {
            MovedLines x = new MovedLines();
            Check.edition(x, 1, Check.FOURTEEN);
            Check.tell(x, ";");
            return x;
        }
    },

    /** Some lines of each kind, three steps to undo, a FAULT of the kind 2, a tape that is a LINE told. */
    PLAIN {
        @Override
        MovedLines make() {
            MovedLines x = new MovedLines();
            Check.edition(x, 0, "g;k;x;u v;w;x;");
            Check.edition(x, 1, "l;u z;y;m;n;x;x;");
            x.cut(0, 0);
            Check.put(x, 0, 5, "y");
            Check.put(x, 1, 5, "o");
            Check.put(x, 1, 0, "abcdefg");
            Check.tell(x, "p q");
            return x;
        }
    },

    /** Fourteen lines of eight words in both, ten steps to undo of eleven, a FAULT of the kind 1, a tape of 640 bytes. */
    FULL {
        @Override
        MovedLines make() {
            MovedLines x = new MovedLines();
            Check.edition(x, 0, LINES);
            Check.edition(x, 1, LINES.substring(0, 14) + "i;" + LINES.substring(16 * 13) + LINES.substring(16, 16 * 13));
            x.cut(0, 13);
            Check.put(x, 0, 2, "c b a h g f e d");
            Check.change(x, 1, 5, "a b c d i j k l");
            x.move(1, 2, 3, 9);
            x.take();
            Check.change(x, 0, 0, "a b c d m n o p");
            x.move(0, 4, 2, 0);
            x.cut(1, 0);
            Check.put(x, 1, 13, "z z z z z z z z");
            x.move(1, 0, 1, 13);
            x.move(0, 13, 1, 0);
            Check.change(x, 0, 0, "a b c D");
            x.end(0);
            Check.tell(x, FULL_TAPE);
            return x;
        }
    };

    private static final String LINES = "a b c d e f g h;b c d e f g h a;c d e f g h a b;d e f g h a b c;e f g h a b c d;f g h a b c d e;"
        + "g h a b c d e f;h a b c d e f g;h g f e d c b a;g f e d c b a h;f e d c b a h g;e d c b a h g f;d c b a h g f e;c b a h g f e d;";
    /** Of which the first 600 bytes are an EDITION of two LINES. */
    private static final String FULL_TAPE = "a b;" + " ".repeat(590) + "c d e;" + "z".repeat(40);

    abstract MovedLines make();
}
