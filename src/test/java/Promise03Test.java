/** Promise 3: end leaves the first n bytes of the tape. */
public final class Promise03Test {
    private Promise03Test() {
    }

    public static void main(String[] args) {
        Check.about("promise 3");
        for (int length : new int[] {0, 1, 19, 20, 21, 600, 639, 640}) {
            atEachNumber(length);
            refused(length);
        }
        firstBytes();
        refusedInAnyState();
        Check.close();
    }

    private static MovedLines withTape(int length) {
        MovedLines x = new MovedLines();
        Check.tell(x, ("ab;" + " ".repeat(637)).substring(0, length));
        return x;
    }

    private static void atEachNumber(int length) {
        MovedLines x = withTape(length);
        Check.due("end(" + length + "), all of it", x.end(length), true);
        Check.due("now(9)", x.now(9), length);
        for (int n = length - 1; n >= 0 && n > length - 50; n--) {
            Check.due("end(" + (n + 2) + ") of " + (n + 1), x.end(n + 2), false);
            Check.due("end(" + n + ") of " + (n + 1), x.end(n), true);
            Check.due("now(9)", x.now(9), n);
        }
        Check.due("end(0)", x.end(0), true);
        Check.due("now(9)", x.now(9), 0);
        Check.due("end(1), none is left", x.end(1), false);
        Check.due("end(0) again", x.end(0), true);
    }

    private static void refused(int length) {
        MovedLines x = withTape(length);
        for (int n : Check.outside(length + 1)) {
            Check.due("end(" + n + ") of " + length, x.end(n), n >= 0 && n <= length);
            x = n >= 0 && n <= length ? withTape(length) : x;
            Check.due("now(9)", x.now(9), length);
        }
    }

    private static void firstBytes() {
        MovedLines x = new MovedLines();
        Check.due("feed", x.feed(0x613b623b, 0x633b643b, 0, 0, 0), 20);
        Check.due("end(6)", x.end(6), true);
        Check.due("end(7), once shorter", x.end(7), false);
        Check.tell(x, "e;");
        Check.due("edition(1)", x.edition(1), 4);
        Check.dueText("the first bytes and those behind", x, 1, "a;b;c;e;");
    }

    private static void refusedInAnyState() {
        for (int n : new int[] {Check.LEAST, -640, -1, 641, Check.GREATEST}) {
            Picture.dueUnchanged("end(" + n + ")", x -> Check.due("end(" + n + ")", x.end(n), false));
        }
        Picture.dueUnchanged("end of all its bytes", x -> Check.due("end", x.end(x.now(9)), true));
    }
}
