/** Promise 2: feed puts twenty bytes behind the tape, the highest of each number first; never more than 640. */
public final class Promise02Test {
    private Promise02Test() {
    }

    public static void main(String[] args) {
        Check.about("promise 2");
        highestFirst();
        behindTheTape();
        eachByteAtItsPlace();
        leastAndGreatest();
        atEachLength();
        refusedFull();
        Check.close();
    }

    private static void highestFirst() {
        MovedLines x = new MovedLines();
        Check.due("feed", x.feed(0x61626364, 0x65662067, 0x68696a6b, 0x6c203b20, 0x6d6e3b0a), 20);
        Check.due("edition(0)", x.edition(0), 2);
        Check.dueText("twenty bytes", x, 0, "abcdef ghijkl;mn;");
    }

    private static void behindTheTape() {
        MovedLines x = new MovedLines();
        Check.tell(x, "a b;c");
        Check.due("feed at five bytes", x.feed(0x64656620, 0x67686920, 0x6a6b6c3b, 0x6d206e20, 0x6f20703b), 25);
        Check.due("edition(1)", x.edition(1), 3);
        Check.dueText("behind five bytes", x, 1, "a b;cdef ghi jkl;m n o p;");
        Check.due("feed on a tape that was read", x.feed(0, 0, 0, 0, 0), 20);
    }

    /** Of twenty blanks one is spoilt: the FAULT stands where it is. */
    private static void eachByteAtItsPlace() {
        for (int place = 0; place < 20; place++) {
            for (int wrong : new int[] {0, 'A', 127, 128, 255}) {
                MovedLines x = new MovedLines();
                int[] n = {0x20202020, 0x20202020, 0x20202020, 0x20202020, 0x20202020};
                int shift = 24 - 8 * (place % 4);
                n[place / 4] = n[place / 4] & ~(255 << shift) | wrong << shift;
                Check.due("feed", x.feed(n[0], n[1], n[2], n[3], n[4]), 20);
                Check.due("edition(0), byte " + wrong + " at " + place, x.edition(0), -2 - place);
            }
        }
    }

    private static void leastAndGreatest() {
        MovedLines x = new MovedLines();
        Check.due("feed of the least int", x.feed(Check.LEAST, Check.LEAST, Check.LEAST, Check.LEAST, Check.LEAST), 20);
        Check.due("feed of the greatest int", x.feed(Check.GREATEST, Check.GREATEST, Check.GREATEST, Check.GREATEST, Check.GREATEST), 40);
        Check.due("feed of -1", x.feed(-1, -1, -1, -1, -1), 60);
        Check.due("edition(0), its first byte is 128", x.edition(0), -2);
        Check.due("fault()", x.fault(), 1);
    }

    private static void atEachLength() {
        for (int length = 0; length <= 640; length++) {
            MovedLines x = new MovedLines();
            Check.tell(x, " ".repeat(length));
            Check.due("now(9)", x.now(9), length);
            boolean fits = length <= 620;
            Check.due("feed at " + length + " bytes", x.feed(0, 0, 0, 0, 0), fits ? length + 20 : -1);
            Check.due("now(9) behind it", x.now(9), fits ? length + 20 : length);
        }
    }

    private static void refusedFull() {
        Picture.dueUnchanged("feed over 640", x -> Check.due("feed", x.feed(0x61616161, 0, -1, 0, 0), -1), new Scene[] {Scene.FULL});
        MovedLines x = new MovedLines();
        Check.tell(x, "a b;" + " ".repeat(617));
        Check.due("feed at 621", x.feed(0x63643b20, 0x63643b20, 0x63643b20, 0x63643b20, 0x63643b20), -1);
        Check.due("end(600)", x.end(600), true);
        Check.due("edition(0)", x.edition(0), 1);
        Check.dueText("none came", x, 0, "a b;");
        Check.due("feed on the tape that was read", x.feed(0, 0, 0, 0, 0), 20);
    }
}
