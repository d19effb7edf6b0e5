import java.util.NoSuchElementException;
import java.util.Random;

/** Calls with any arguments in any state: nothing but what the document names may be thrown. */
public final class WildTest {
    private static final int RUNS = 12000;
    /** With what is asked behind every tenth, and the tapes that are told, no more than 512. */
    private static final int CALLS = 100;
    private static final int[] EDGES = {Integer.MIN_VALUE, Integer.MIN_VALUE + 1, -1000, -15, -2, -1, 0, 1, 2, 3, 5, 7, 8, 9, 13, 14,
        15, 20, 31, 32, 79, 80, 81, 112, 599, 600, 601, 620, 621, 639, 640, 641, Integer.MAX_VALUE - 1, Integer.MAX_VALUE};
    private static final String TEXT = "a;b;a b;b a;a;c a b d;e;a;b;abcdef a;c;d;e;f;";

    private WildTest() {
    }

    public static void main(String[] args) {
        for (int run = 0; run < RUNS; run++) {
            Random chance = new Random(run);
            MovedLines x = new MovedLines();
            for (int call = 0; call < CALLS; call++) {
                askWildly(x, chance, "run " + run + ", call " + call);
                if (call % 10 == 9) {
                    dueInBounds(x, "run " + run + ", call " + call);
                }
            }
        }
        Check.close();
    }

    private static int any(Random chance) {
        return chance.nextInt(3) == 0 ? EDGES[chance.nextInt(EDGES.length)] : chance.nextInt(16) - 1;
    }

    private static int side(Random chance) {
        return chance.nextInt(6) == 0 ? any(chance) : chance.nextInt(2);
    }

    private static void askWildly(MovedLines x, Random chance, String name) {
        int a = side(chance);
        int b = any(chance);
        int c = any(chance);
        int d = any(chance);
        int way = chance.nextInt(24);
        String thrown = "nothing";
        try {
            call(x, way, a, b, c, d, chance);
        } catch (NoSuchElementException e) {
            thrown = way == 4 ? "nothing" : e.toString();
        } catch (RuntimeException e) {
            thrown = e.toString();
        }
        Check.due(name + ": way " + way + " (" + a + ", " + b + ", " + c + ", " + d + ") threw " + thrown,
            thrown.equals("nothing"), true);
    }

    private static void dueInBounds(MovedLines x, String name) {
        Check.due(name + ": lines within bounds", x.now(0) >= 0 && x.now(0) <= 14 && x.now(1) >= 0 && x.now(1) <= 14
            && x.now(8) >= 0 && x.now(8) <= 10 && x.now(9) >= 0 && x.now(9) <= 640, true);
        Check.due(name + ": each line told once", x.now(2) + x.now(3) + x.now(5) + x.now(6) == x.now(0)
            && x.now(2) + x.now(3) + x.now(5) + x.now(7) == x.now(1) && x.now(2) <= x.most(), true);
    }

    private static void call(MovedLines x, int way, int a, int b, int c, int d, Random chance) {
        switch (way) {
            case 0 -> x.feed(b, c, d, chance.nextInt(), 0x613b623b);
            case 1 -> x.end(b);
            case 2 -> x.edition(a);
            case 3 -> x.now(b);
            case 4 -> x.line(a, b, c);
            case 5 -> x.letter(a, b, c, d);
            case 6 -> x.block(b, c);
            case 7 -> x.shared(b, c);
            case 8 -> x.stays(b, c, d);
            case 9 -> x.most();
            case 10 -> x.changes();
            case 11 -> x.anchors(b);
            case 12 -> x.would(a, b, c);
            case 13 -> x.put(a, b);
            case 14 -> x.change(a, b);
            case 15 -> x.cut(a, b);
            case 16 -> x.move(a, b, c, d);
            case 17 -> x.take();
            case 18 -> x.undo();
            case 19 -> x.fault();
            case 20 -> {
                x.end(0);
                Check.tell(x, TEXT.substring(0, chance.nextInt(TEXT.length() + 1)));
                x.edition(a);
            }
            default -> {
                x.end(0);
                Check.tell(x, "b a c d".substring(0, 1 + chance.nextInt(7)));
                x.put(a, b);
            }
        }
    }
}
