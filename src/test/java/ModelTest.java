import java.util.Random;

/** Runs of calls by chance (always the same ones), each answer held against Model. */
public final class ModelTest {
    private static final int RUNS = 3000;
    /** Behind so many calls no new round begins: a round has some 150 at most, an object 512 in all. */
    private static final int CALLS = 350;

    private final Random chance;
    private final MovedLines x = new MovedLines();
    private final Model model = new Model();
    private final int letters;
    private final int words;
    private final int lines;
    private final String name;
    private Model.Result result = model.result();
    private int calls = 0;

    private ModelTest(int run) {
        chance = new Random(run);
        name = "run " + run + ": ";
        letters = 1 + chance.nextInt(4);
        words = 1 + chance.nextInt(8);
        lines = chance.nextInt(4) == 0 ? 14 : 2 + chance.nextInt(9);
    }

    public static void main(String[] args) {
        for (int run = 0; run < RUNS; run++) {
            new ModelTest(run).run();
        }
        Check.close();
    }

    private void run() {
        tellEdition(0);
        tellEdition(1);
        while (calls < CALLS) {
            changeSomething();
            result = model.result();
            askAll();
            for (int k = 0; k < 6; k++) {
                askSomething();
            }
        }
    }

    private void due(String call, long got, long want) {
        calls++;
        Check.due(name + call, got, want);
    }

    // ---- texts

    private String word() {
        StringBuilder word = new StringBuilder();
        int length = chance.nextInt(12) == 0 ? 1 + chance.nextInt(7) : 1;
        for (int k = 0; k < length; k++) {
            word.append((char) ('a' + chance.nextInt(letters)));
        }
        return word.toString();
    }

    private String line() {
        StringBuilder line = new StringBuilder();
        int count = chance.nextInt(40) == 0 ? chance.nextInt(11) : 1 + chance.nextInt(words);
        for (int k = 0; k < count; k++) {
            line.append(k == 0 ? "" : chance.nextInt(6) == 0 ? "\n " : " ").append(word());
        }
        return line.toString();
    }

    private String edition() {
        StringBuilder text = new StringBuilder();
        String[] known = new String[1 + chance.nextInt(lines)];
        for (int k = 0; k < known.length; k++) {
            known[k] = line();
        }
        int count = chance.nextInt(30) == 0 ? chance.nextInt(17) : chance.nextInt(lines + 1);
        for (int k = 0; k < count; k++) {
            text.append(chance.nextInt(3) == 0 ? known[chance.nextInt(known.length)] : line()).append(";");
        }
        return text.toString();
    }

    /** The other edition with its lines shuffled a little: so that there is something to keep and to move. */
    private String likeOther(int which) {
        String[] parts = model.text(1 - which).split(";");
        StringBuilder text = new StringBuilder();
        int shift = chance.nextInt(parts.length + 1);
        int count = 0;
        for (int k = 0; k < parts.length; k++) {
            String part = parts[(k + (k > 1 ? shift : 0)) % parts.length];
            int way = chance.nextInt(10);
            String told = way == 0 ? line() : way == 1 ? part + " " + word() : way == 2 ? word() + " " + part : part;
            if (way != 3 && !told.isBlank() && count < 14) {
                text.append(told).append(';');
                count++;
            }
        }
        return text.toString();
    }

    private String spoilt(String text) {
        if (text.isEmpty() || chance.nextInt(12) != 0) {
            return text;
        }
        int at = chance.nextInt(text.length());
        String[] marks = {";", "A", "{", "`", "\u00e9", "\u0000", " ", "a", "bbbbbbb", ";;", "0", "\t"};
        return text.substring(0, at) + marks[chance.nextInt(marks.length)] + text.substring(at);
    }

    private String padded(String text, int limit) {
        if (chance.nextInt(25) != 0) {
            return text;
        }
        String blanks = " ".repeat(Math.max(0, limit - text.length() + chance.nextInt(4) - 1));
        return chance.nextBoolean() ? text + blanks : blanks + text;
    }

    private void tell(String text) {
        if (chance.nextInt(5) != 0) {
            due("end(0)", x.end(0) ? 1 : 0, model.end(0) ? 1 : 0);
        }
        int before = model.bytes();
        for (int from = 0; from < text.length(); from += 20) {
            int[] n = new int[5];
            for (int k = 0; k < 5; k++) {
                n[k] = Check.four(text, from + 4 * k);
            }
            due("feed of \"" + text + "\" from " + from, x.feed(n[0], n[1], n[2], n[3], n[4]), model.feed(n));
        }
        int length = before + text.length() + (chance.nextInt(20) == 0 ? chance.nextInt(30) - 10 : 0);
        due("end(" + length + ")", x.end(length) ? 1 : 0, model.end(length) ? 1 : 0);
    }

    // ---- changes

    private void tellEdition(int which) {
        tell(padded(spoilt(chance.nextBoolean() ? likeOther(which) : edition()), 600));
        due("edition(" + which + ")", x.edition(which), model.edition(which));
    }

    private int some(int count) {
        return chance.nextInt(15) == 0 ? chance.nextInt(5) - 2 + count : chance.nextInt(count + 1);
    }

    private void changeSomething() {
        int which = chance.nextInt(25) == 0 ? chance.nextInt(5) - 2 : chance.nextInt(2);
        int count = which == 0 || which == 1 ? model.lines(which) : 3;
        int at = some(count);
        switch (chance.nextInt(12)) {
            case 0:
                tellEdition(which == 0 || which == 1 ? which : 0);
                break;
            case 1, 2, 3:
                tell(padded(spoilt(line()), 80));
                due("put(" + which + ", " + at + ")", x.put(which, at), model.put(which, at));
                break;
            case 4, 5:
                tell(padded(spoilt(line()), 80));
                due("change(" + which + ", " + at + ")", x.change(which, at), model.change(which, at));
                break;
            case 6:
                due("cut(" + which + ", " + at + ")", x.cut(which, at), model.cut(which, at));
                break;
            case 7, 8:
                int n = chance.nextInt(20) == 0 ? Integer.MAX_VALUE - chance.nextInt(3) : chance.nextInt(5);
                int to = some(count);
                due("move(" + which + ", " + at + ", " + n + ", " + to + ")",
                    x.move(which, at, n, to) ? 1 : 0, model.move(which, at, n, to) ? 1 : 0);
                break;
            case 9:
                due("take()", x.take(), model.take());
                break;
            case 10:
                due("undo()", x.undo(), model.undo());
                break;
            default:
                int none = chance.nextBoolean() ? 2 : -1;
                due("edition(" + none + ")", x.edition(none), model.edition(none));
                break;
        }
    }

    // ---- questions

    private void askAll() {
        due("fault()", x.fault(), model.fault());
        for (int what = -1; what <= 10; what++) {
            due("now(" + what + ")", x.now(what), model.now(what, result));
        }
        for (int which = 0; which < 2; which++) {
            for (int line = 0; line < model.lines(which); line++) {
                for (int what = 1; what <= 3; what++) {
                    due("line(" + which + ", " + line + ", " + what + ")",
                        Check.lineOrThrows(x, which, line, what), model.line(which, line, what, result));
                }
            }
        }
        due("changes()", x.changes(), model.changes(result));
        due("anchors(0)", x.anchors(0), model.anchors(0, result));
        due("anchors(1)", x.anchors(1), model.anchors(1, result));
    }

    private void askSomething() {
        int which = chance.nextInt(12) == 0 ? chance.nextInt(5) - 2 : chance.nextInt(2);
        int old = some(model.lines(0));
        int fresh = some(model.lines(1));
        int line = which == 0 ? old : fresh;
        int word = some(6);
        int k = some(4);
        switch (chance.nextInt(9)) {
            case 0:
                due("letter(" + which + ", " + line + ", " + word + ", " + (k - 1) + ")",
                    x.letter(which, line, word, k - 1), model.letter(which, line, word, k - 1));
                break;
            case 1:
                due("block(" + k + ", " + (word - 1) + ")", x.block(k, word - 1), model.block(k, word - 1, result));
                break;
            case 2:
                due("shared(" + old + ", " + fresh + ")", x.shared(old, fresh), model.shared(old, fresh));
                break;
            case 3, 4:
                due("stays(" + old + ", " + word + ", " + fresh + ")",
                    x.stays(old, word, fresh), model.stays(old, word, fresh));
                break;
            case 5:
                due("most()", x.most(), model.most());
                break;
            case 6:
                due("line(" + which + ", " + line + ", " + (k - 1) + ")",
                    Check.lineOrThrows(x, which, line, k - 1), model.line(which, line, k - 1, result));
                break;
            default:
                int one = which == 0 ? old : fresh;
                int other = which == 0 ? fresh : old;
                due("would(" + which + ", " + one + ", " + other + ")",
                    x.would(which, one, other), model.would(which, one, other, result));
                break;
        }
    }
}
