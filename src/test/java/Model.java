import java.util.ArrayDeque;
import java.util.ArrayList;
import java.util.Arrays;
import java.util.Deque;
import java.util.HashMap;
import java.util.List;
import java.util.Map;

/**
 * The document word for word, with no thought of speed: everything is found by trying all there is. ModelTest
 * holds the class against it.
 */
final class Model {
    static final int KEPT = 0;
    static final int MOVED = 1;
    static final int EDITED = 2;
    static final int LOOSE = 3;

    /** How each line is, with which, of which block; and the blocks as {old, new, lines}. */
    static final class Result {
        final int[][] how = new int[2][14];
        final int[][] with = new int[2][14];
        final int[][] block = new int[2][14];
        final List<int[]> blocks = new ArrayList<>();
        int anchors = 0;
        int run = 0;

        Result() {
            for (int which = 0; which < 2; which++) {
                Arrays.fill(how[which], LOOSE);
                Arrays.fill(with[which], -1);
                Arrays.fill(block[which], -1);
            }
        }

        void join(int as, int i, int j, int ofBlock) {
            how[0][i] = as;
            how[1][j] = as;
            with[0][i] = j;
            with[1][j] = i;
            block[0][i] = ofBlock;
            block[1][j] = ofBlock;
        }

        int count(int which, int as, int lines) {
            int n = 0;
            for (int line = 0; line < lines; line++) {
                n += how[which][line] == as ? 1 : 0;
            }
            return n;
        }
    }

    private List<List<List<String>>> editions = new ArrayList<>();
    private final Deque<List<List<List<String>>>> past = new ArrayDeque<>();
    private final List<Integer> tape = new ArrayList<>();
    private int fault = 0;
    private final Map<String, Integer> sharedBefore = new HashMap<>();

    Model() {
        editions.add(new ArrayList<>());
        editions.add(new ArrayList<>());
    }

    // ---- the tape

    int feed(int... numbers) {
        if (tape.size() + 20 > 640) {
            return -1;
        }
        for (int number : numbers) {
            for (int shift = 24; shift >= 0; shift -= 8) {
                tape.add(number >> shift & 255);
            }
        }
        return tape.size();
    }

    boolean end(int n) {
        if (n < 0 || n > tape.size()) {
            return false;
        }
        tape.subList(n, tape.size()).clear();
        return true;
    }

    int fault() {
        return fault;
    }

    int bytes() {
        return tape.size();
    }

    int lines(int which) {
        return editions.get(which).size();
    }

    String text(int which) {
        StringBuilder text = new StringBuilder();
        for (List<String> line : editions.get(which)) {
            text.append(String.join(" ", line)).append(';');
        }
        return text.toString();
    }

    private boolean letterAt(int p) {
        return p >= 0 && p < tape.size() && tape.get(p) >= 'a' && tape.get(p) <= 'z';
    }

    private boolean isWordStart(int p) {
        return letterAt(p) && !letterAt(p - 1);
    }

    private int lineStart(int p) {
        int q = p;
        while (q > 0 && tape.get(q - 1) != ';') {
            q--;
        }
        return q;
    }

    private int wordStarts(int from, int to) {
        int n = 0;
        for (int q = from; q < to; q++) {
            n += isWordStart(q) ? 1 : 0;
        }
        return n;
    }

    private int faultAt(int p, boolean whole) {
        int limit = whole ? 600 : 80;
        if (p == tape.size()) {
            boolean words = wordStarts(lineStart(p), p) > 0;
            return (whole ? words : !words) ? 1 : 0;
        }
        int b = tape.get(p);
        boolean blank = b == 32 || b == 10;
        boolean mark = whole && b == ';';
        if (!letterAt(p) && !blank && !mark) {
            return 1;
        }
        if (mark && wordStarts(lineStart(p), p) == 0) {
            return 1;
        }
        if (p == limit) {
            return 1;
        }
        boolean seventh = letterAt(p);
        for (int q = p - 6; q < p; q++) {
            seventh &= letterAt(q);
        }
        long marks = tape.subList(0, p).stream().filter(c -> c == ';').count();
        boolean ninth = isWordStart(p) && wordStarts(lineStart(p), p) == 8;
        boolean fifteenth = isWordStart(p) && marks == 14;
        return seventh || ninth || fifteenth ? 2 : 0;
    }

    /** The place of the fault, or -1; the tape is empty then. */
    private int readTape(boolean whole, List<List<String>> lines) {
        int place = -1;
        fault = 0;
        for (int p = 0; p <= tape.size() && place < 0; p++) {
            fault = faultAt(p, whole);
            place = fault != 0 ? p : -1;
        }
        if (place < 0) {
            StringBuilder text = new StringBuilder();
            for (int b : tape) {
                text.append((char) b);
            }
            for (String line : text.toString().split(";")) {
                if (!line.isBlank()) {
                    lines.add(List.of(line.strip().split("[ \n]+")));
                }
            }
        }
        tape.clear();
        return place;
    }

    // ---- what changes the editions

    private static List<List<List<String>>> copy(List<List<List<String>>> from) {
        List<List<List<String>>> to = new ArrayList<>();
        for (List<List<String>> edition : from) {
            to.add(new ArrayList<>(edition));
        }
        return to;
    }

    private List<List<String>> step(int which) {
        past.addLast(copy(editions));
        if (past.size() > 10) {
            past.removeFirst();
        }
        return editions.get(which);
    }

    private boolean has(int which, int line) {
        return (which == 0 || which == 1) && line >= 0 && line < editions.get(which).size();
    }

    int edition(int which) {
        if (which != 0 && which != 1) {
            return -1;
        }
        List<List<String>> lines = new ArrayList<>();
        int place = readTape(true, lines);
        if (place >= 0) {
            return -2 - place;
        }
        editions.set(which, lines);
        past.clear();
        return lines.size();
    }

    int put(int which, int at) {
        if ((which != 0 && which != 1) || at < 0 || at > editions.get(which).size()) {
            return -1;
        }
        if (editions.get(which).size() == 14) {
            return -1000;
        }
        List<List<String>> lines = new ArrayList<>();
        int place = readTape(false, lines);
        if (place >= 0) {
            return -2 - place;
        }
        step(which).add(at, lines.get(0));
        return editions.get(which).size();
    }

    int change(int which, int line) {
        if (!has(which, line)) {
            return -1;
        }
        List<List<String>> lines = new ArrayList<>();
        int place = readTape(false, lines);
        if (place >= 0) {
            return -2 - place;
        }
        step(which).set(line, lines.get(0));
        return lines.get(0).size();
    }

    int cut(int which, int line) {
        if (!has(which, line)) {
            return -1;
        }
        step(which).remove(line);
        return editions.get(which).size();
    }

    boolean move(int which, int from, int n, int at) {
        if (!has(which, from) || n < 1 || (long) from + n > editions.get(which).size()
                || at < 0 || at > editions.get(which).size() - n) {
            return false;
        }
        List<List<String>> lines = step(which);
        List<List<String>> taken = new ArrayList<>(lines.subList(from, from + n));
        lines.subList(from, from + n).clear();
        lines.addAll(at, taken);
        return true;
    }

    int take() {
        step(0);
        editions.set(0, new ArrayList<>(editions.get(1)));
        return editions.get(0).size();
    }

    int undo() {
        if (past.isEmpty()) {
            return -1;
        }
        editions = past.removeLast();
        return past.size();
    }

    // ---- the comparison

    Result result() {
        return compare(editions.get(0), editions.get(1));
    }

    private Result compare(List<List<String>> old, List<List<String>> fresh) {
        Result r = new Result();
        range(r, old, fresh, new int[] {0, old.size(), 0, fresh.size()}, true);
        while (moveLongest(r, old, fresh)) {
            continue;
        }
        while (editLikest(r, old, fresh)) {
            continue;
        }
        return r;
    }

    private void range(Result r, List<List<String>> old, List<List<String>> fresh, int[] of, boolean first) {
        int a = of[0];
        int b = of[1];
        int c = of[2];
        int d = of[3];
        while (a < b && c < d && old.get(a).equals(fresh.get(c))) {
            r.join(KEPT, a++, c++, -1);
        }
        while (a < b && c < d && old.get(b - 1).equals(fresh.get(d - 1))) {
            r.join(KEPT, --b, --d, -1);
        }
        List<int[]> anchors = new ArrayList<>();
        for (int i = a; i < b; i++) {
            for (int j = c; j < d; j++) {
                if (old.get(i).equals(fresh.get(j)) && once(old.subList(a, b), old.get(i)) && once(fresh.subList(c, d), old.get(i))) {
                    anchors.add(new int[] {i, j});
                }
            }
        }
        List<int[]> run = bestRun(anchors);
        if (first) {
            r.anchors = anchors.size();
            r.run = run.size();
        }
        if (anchors.isEmpty()) {
            return;
        }
        int i = a;
        int j = c;
        for (int[] couple : run) {
            r.join(KEPT, couple[0], couple[1], -1);
            range(r, old, fresh, new int[] {i, couple[0], j, couple[1]}, false);
            i = couple[0] + 1;
            j = couple[1] + 1;
        }
        range(r, old, fresh, new int[] {i, b, j, d}, false);
    }

    private static boolean once(List<List<String>> lines, List<String> line) {
        return lines.indexOf(line) == lines.lastIndexOf(line);
    }

    private static List<int[]> bestRun(List<int[]> anchors) {
        List<int[]> best = new ArrayList<>();
        for (int set = 0; set < 1 << anchors.size(); set++) {
            List<int[]> run = new ArrayList<>();
            boolean rises = true;
            for (int k = 0; k < anchors.size(); k++) {
                if ((set >> k & 1) != 0) {
                    rises &= run.isEmpty() || run.get(run.size() - 1)[1] < anchors.get(k)[1];
                    run.add(anchors.get(k));
                }
            }
            if (rises && (run.size() > best.size() || run.size() == best.size() && isLess(run, best))) {
                best = run;
            }
        }
        return best;
    }

    /** Of two rows of couples, equally long: which has the lesser first, by its first place, then its second, and on. */
    private static boolean isLess(List<int[]> one, List<int[]> two) {
        for (int k = 0; k < one.size(); k++) {
            for (int side = 0; side < 2; side++) {
                if (one.get(k)[side] != two.get(k)[side]) {
                    return one.get(k)[side] < two.get(k)[side];
                }
            }
        }
        return false;
    }

    private static boolean moveLongest(Result r, List<List<String>> old, List<List<String>> fresh) {
        for (int n = Math.min(old.size(), fresh.size()); n > 0; n--) {
            for (int i = 0; i + n <= old.size(); i++) {
                for (int j = 0; j + n <= fresh.size(); j++) {
                    boolean fits = old.subList(i, i + n).equals(fresh.subList(j, j + n));
                    for (int k = 0; k < n; k++) {
                        fits &= r.how[0][i + k] == LOOSE && r.how[1][j + k] == LOOSE;
                    }
                    if (fits) {
                        for (int k = 0; k < n; k++) {
                            r.join(MOVED, i + k, j + k, r.blocks.size());
                        }
                        r.blocks.add(new int[] {i, j, n});
                        return true;
                    }
                }
            }
        }
        return false;
    }

    private boolean editLikest(Result r, List<List<String>> old, List<List<String>> fresh) {
        for (int words = 8; words > 0; words--) {
            for (int i = 0; i < old.size(); i++) {
                for (int j = 0; j < fresh.size(); j++) {
                    if (r.how[0][i] == LOOSE && r.how[1][j] == LOOSE && words(old.get(i), fresh.get(j)) == words
                            && 2 * words >= old.get(i).size() && 2 * words >= fresh.get(j).size()) {
                        r.join(EDITED, i, j, -1);
                        return true;
                    }
                }
            }
        }
        return false;
    }

    /** The most elements of one row, in order, that stand in order in the other: every row of them is tried. */
    private static <T> int mostShared(List<T> one, List<T> two) {
        int most = 0;
        for (int set = 0; set < 1 << one.size(); set++) {
            if (Integer.bitCount(set) > most) {
                int at = 0;
                boolean fits = true;
                for (int k = 0; k < one.size() && fits; k++) {
                    if ((set >> k & 1) != 0) {
                        int found = two.subList(at, two.size()).indexOf(one.get(k));
                        fits = found >= 0;
                        at += found + 1;
                    }
                }
                most = fits ? Integer.bitCount(set) : most;
            }
        }
        return most;
    }

    private int words(List<String> one, List<String> two) {
        return sharedBefore.computeIfAbsent(one + "/" + two, key -> mostShared(one, two));
    }

    /** Every rising row of couples of like words is tried. */
    private static void stayRows(List<String> one, List<String> two, int i, int j, List<int[]> row, List<List<int[]>> best) {
        List<int[]> known = best.get(0);
        if (row.size() > known.size() || row.size() == known.size() && isLess(row, known)) {
            best.set(0, new ArrayList<>(row));
        }
        for (int a = i; a < one.size(); a++) {
            for (int b = j; b < two.size(); b++) {
                if (one.get(a).equals(two.get(b))) {
                    row.add(new int[] {a, b});
                    stayRows(one, two, a + 1, b + 1, row, best);
                    row.remove(row.size() - 1);
                }
            }
        }
    }

    // ---- what is asked

    int now(int what, Result r) {
        int olds = editions.get(0).size();
        int news = editions.get(1).size();
        int[] answers = {olds, news, r.count(0, KEPT, olds), r.count(0, MOVED, olds), r.blocks.size(),
            r.count(0, EDITED, olds), r.count(0, LOOSE, olds), r.count(1, LOOSE, news), past.size(), tape.size()};
        return what >= 0 && what < answers.length ? answers[what] : -1;
    }

    long line(int which, int line, int what, Result r) {
        if (!has(which, line) || what < 0 || what > 3) {
            return Long.MIN_VALUE;
        }
        int[] answers = {editions.get(which).get(line).size(), r.how[which][line], r.with[which][line], r.block[which][line]};
        return answers[what];
    }

    int letter(int which, int line, int word, int k) {
        if (!has(which, line) || word < 0 || word >= editions.get(which).get(line).size()) {
            return -1;
        }
        String told = editions.get(which).get(line).get(word);
        if (k == -1) {
            return told.length();
        }
        return k >= 0 && k < told.length() ? told.charAt(k) - 'a' + 1 : -1;
    }

    int block(int block, int what, Result r) {
        return block >= 0 && block < r.blocks.size() && what >= 0 && what < 3 ? r.blocks.get(block)[what] : -1;
    }

    int shared(int old, int fresh) {
        return has(0, old) && has(1, fresh) ? words(editions.get(0).get(old), editions.get(1).get(fresh)) : -1;
    }

    int stays(int old, int k, int fresh) {
        if (!has(0, old) || !has(1, fresh)) {
            return -1;
        }
        List<List<int[]>> best = new ArrayList<>();
        best.add(new ArrayList<>());
        stayRows(editions.get(0).get(old), editions.get(1).get(fresh), 0, 0, new ArrayList<>(), best);
        for (int[] couple : best.get(0)) {
            if (couple[0] == k) {
                return couple[1];
            }
        }
        return -1;
    }

    int most() {
        return mostShared(editions.get(0), editions.get(1));
    }

    int changes(Result r) {
        int words = 0;
        for (int which = 0; which < 2; which++) {
            for (int line = 0; line < editions.get(which).size(); line++) {
                List<String> told = editions.get(which).get(line);
                if (r.how[which][line] == LOOSE) {
                    words += told.size();
                } else if (r.how[which][line] == EDITED) {
                    words += told.size() - words(told, editions.get(1 - which).get(r.with[which][line]));
                }
            }
        }
        return words;
    }

    int anchors(int what, Result r) {
        return what == 0 ? r.anchors : what == 1 ? r.run : -1;
    }

    int would(int which, int one, int other, Result r) {
        if (!has(which, one) || !has(1 - which, other)) {
            return -1;
        }
        List<List<List<String>>> supposed = copy(editions);
        supposed.get(which).set(one, editions.get(1 - which).get(other));
        Result then = compare(supposed.get(0), supposed.get(1));
        int differences = 0;
        for (int side = 0; side < 2; side++) {
            for (int line = 0; line < editions.get(side).size(); line++) {
                differences += r.how[side][line] != then.how[side][line] || r.with[side][line] != then.with[side][line] ? 1 : 0;
            }
        }
        return differences;
    }
}
