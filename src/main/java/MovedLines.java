import java.util.NoSuchElementException;

/** Two editions of a text, compared line by line; what each call must do stands in DOC.md. */
public final class MovedLines {
    public static final int NONE = -1;

    private static final int OLD = 0;
    private static final int NEW = 1;

    private static final int MOST_LINES = 14;
    private static final int MOST_WORDS = 8;
    private static final int MOST_LETTERS = 6;
    private static final int MOST_STEPS = 10;

    private static final int TAPE_BYTES = 640;
    private static final int FEED_BYTES = 20;
    private static final int EDITION_BYTES = 600;
    private static final int LINE_BYTES = 80;

    private static final int KEPT = 0;
    private static final int MOVED = 1;
    private static final int EDITED = 2;
    private static final int LOOSE = 3;

    private static final int FORM_FAULT = 1;
    private static final int SIZE_FAULT = 2;
    private static final int NO_ROOM = -1000;

    private final Tape tape = new Tape();
    private final Reader reader = new Reader();
    private final Edition old = new Edition();
    private final Edition fresh = new Edition();
    private final Edition spare = new Edition();
    private final Past past = new Past();
    private final Comparer comparer = new Comparer();
    private final CommonRow common = new CommonRow();
    private final Told told = new Told();
    private final Told supposed = new Told();
    private boolean stale = true;

    public MovedLines() {
    }

    public int feed(int a, int b, int c, int d, int e) {
        if (tape.length > TAPE_BYTES - FEED_BYTES) {
            return NONE;
        }
        tape.append(a);
        tape.append(b);
        tape.append(c);
        tape.append(d);
        tape.append(e);
        return tape.length;
    }

    public boolean end(int n) {
        if (n < 0 || n > tape.length) {
            return false;
        }
        tape.length = n;
        return true;
    }

    public int edition(int which) {
        if (!isEdition(which)) {
            return NONE;
        }
        if (!readTape(true)) {
            return -2 - reader.place;
        }
        editionOf(which).copyAll(reader.draft);
        past.forget();
        stale = true;
        return editionOf(which).lines;
    }

    public int fault() {
        return reader.fault;
    }

    public int now(int what) {
        switch (what) {
            case 0:
                return old.lines;
            case 1:
                return fresh.lines;
            case 2:
                return compared().couples[KEPT];
            case 3:
                return compared().couples[MOVED];
            case 4:
                return compared().blocks;
            case 5:
                return compared().couples[EDITED];
            case 6:
                return old.lines - compared().allCouples();
            case 7:
                return fresh.lines - compared().allCouples();
            case 8:
                return past.count;
            case 9:
                return tape.length;
            default:
                return NONE;
        }
    }

    public int line(int which, int line, int what) throws NoSuchElementException {
        if (!hasLine(which, line)) {
            throw new NoSuchElementException("no such line");
        }
        switch (what) {
            case 0:
                return editionOf(which).sizeOf(line);
            case 1:
                return compared().how[which][line];
            case 2:
                return compared().with[which][line];
            case 3:
                return compared().blockOf[which][line];
            default:
                throw new NoSuchElementException("no such thing to ask of a line");
        }
    }

    public int letter(int which, int line, int word, int k) {
        if (!hasLine(which, line)) {
            return NONE;
        }
        int letters = editionOf(which).lettersOf(line, word);
        if (letters == 0) {
            return NONE;
        }
        if (k == NONE) {
            return letters;
        }
        return k >= 0 && k < letters ? letterIn(editionOf(which).wordAt(line, word), k) : NONE;
    }

    public int block(int block, int what) {
        Told of = compared();
        if (block < 0 || block >= of.blocks) {
            return NONE;
        }
        switch (what) {
            case 0:
                return of.blockOld[block];
            case 1:
                return of.blockNew[block];
            case 2:
                return of.blockLines[block];
            default:
                return NONE;
        }
    }

    public int shared(int old, int fresh) {
        if (!hasLine(OLD, old) || !hasLine(NEW, fresh)) {
            return NONE;
        }
        return measureWords(old, fresh);
    }

    public int stays(int old, int k, int fresh) {
        if (!hasLine(OLD, old) || !hasLine(NEW, fresh)) {
            return NONE;
        }
        measureWords(old, fresh);
        return common.partnerOf(k);
    }

    public int most() {
        return comparer.mostLines(old, fresh);
    }

    public int changes() {
        return compared().changedWords;
    }

    public int anchors(int what) {
        if (what == 0) {
            return compared().firstAnchors;
        }
        return what == 1 ? compared().firstRun : NONE;
    }

    public int would(int which, int one, int other) {
        if (!hasLine(which, one) || !hasLine(otherThan(which), other)) {
            return NONE;
        }
        spare.copyAll(editionOf(which));
        spare.setLine(one, editionOf(otherThan(which)), other);
        comparer.compare(which == OLD ? spare : old, which == NEW ? spare : fresh, supposed);
        return compared().differencesFrom(supposed);
    }

    public int put(int which, int at) {
        if (!isEdition(which) || at < 0 || at > editionOf(which).lines) {
            return NONE;
        }
        if (editionOf(which).lines >= MOST_LINES) {
            return NO_ROOM;
        }
        if (!readTape(false)) {
            return -2 - reader.place;
        }
        Edition changed = startStep(which);
        changed.insertLine(at, reader.draft, 0);
        return changed.lines;
    }

    public int change(int which, int line) {
        if (!hasLine(which, line)) {
            return NONE;
        }
        if (!readTape(false)) {
            return -2 - reader.place;
        }
        Edition changed = startStep(which);
        changed.setLine(line, reader.draft, 0);
        return changed.sizeOf(line);
    }

    public int cut(int which, int line) {
        if (!hasLine(which, line)) {
            return NONE;
        }
        Edition changed = startStep(which);
        changed.removeLine(line);
        return changed.lines;
    }

    public boolean move(int which, int from, int n, int at) {
        if (!hasLine(which, from)) {
            return false;
        }
        int lines = editionOf(which).lines;
        // n is held against what is left, not added to from: the sum could wrap around
        if (n < 1 || n > lines - from || at < 0 || at > lines - n) {
            return false;
        }
        Edition changed = startStep(which);
        spare.copyAll(changed);
        changed.arrangeFrom(spare, from, n, at);
        return true;
    }

    public int take() {
        startStep(OLD).copyAll(fresh);
        return old.lines;
    }

    public int undo() {
        if (past.count == 0) {
            return NONE;
        }
        int step = past.stepBack();
        editionOf(past.which[step]).copyAll(past.editions[step]);
        stale = true;
        return past.count;
    }

    private static boolean isEdition(int which) {
        return which == OLD || which == NEW;
    }

    private static int otherThan(int which) {
        return which == OLD ? NEW : OLD;
    }

    private Edition editionOf(int which) {
        return which == OLD ? old : fresh;
    }

    private boolean hasLine(int which, int line) {
        return isEdition(which) && editionOf(which).has(line);
    }

    private boolean readTape(boolean whole) {
        boolean sound = reader.read(tape, whole);
        tape.length = 0;
        return sound;
    }

    /** The edition that is about to be changed, kept as it was ahead of that. */
    private Edition startStep(int which) {
        past.keep(which, editionOf(which));
        stale = true;
        return editionOf(which);
    }

    /** Compared only when asked: many changes may follow one another unasked. */
    private Told compared() {
        if (stale) {
            comparer.compare(old, fresh, told);
            stale = false;
        }
        return told;
    }

    private int measureWords(int oldLine, int newLine) {
        common.setFirst(old.words, oldLine * MOST_WORDS, old.sizeOf(oldLine));
        common.setSecond(fresh.words, newLine * MOST_WORDS, fresh.sizeOf(newLine));
        return common.measure();
    }

    /** A word is one number, five bits a letter, so that like words are equal numbers. */
    private static int letterIn(int word, int k) {
        return (word >>> (5 * k)) & 31;
    }

    private static final class Tape {
        final byte[] bytes = new byte[TAPE_BYTES];
        int length = 0;

        void append(int number) {
            if (length < 0 || length > TAPE_BYTES - 4) {
                return;
            }
            bytes[length] = (byte) (number >>> 24);
            bytes[length + 1] = (byte) (number >>> 16);
            bytes[length + 2] = (byte) (number >>> 8);
            bytes[length + 3] = (byte) number;
            length += 4;
        }
    }

    private static final class Edition {
        final int[] sizes = new int[MOST_LINES];
        final int[] words = new int[MOST_LINES * MOST_WORDS];
        int lines = 0;

        boolean has(int line) {
            return line >= 0 && line < lines;
        }

        int sizeOf(int line) {
            return has(line) ? sizes[line] : 0;
        }

        /** 0, which no word is, where there is none. */
        int wordAt(int line, int word) {
            return word >= 0 && word < sizeOf(line) ? words[line * MOST_WORDS + word] : 0;
        }

        int lettersOf(int line, int word) {
            int code = wordAt(line, word);
            int letters = 0;
            while (letters < MOST_LETTERS && letterIn(code, letters) != 0) {
                letters++;
            }
            return letters;
        }

        boolean isLike(int line, Edition other, int otherLine) {
            if (!has(line) || !other.has(otherLine) || sizes[line] != other.sizes[otherLine]) {
                return false;
            }
            int here = line * MOST_WORDS;
            int there = otherLine * MOST_WORDS;
            for (int word = 0; word < sizes[line]; word++) {
                if (words[here + word] != other.words[there + word]) {
                    return false;
                }
            }
            return true;
        }

        void copyAll(Edition from) {
            lines = from.lines;
            for (int line = 0; line < lines; line++) {
                setLine(line, from, line);
            }
        }

        void setLine(int at, Edition from, int line) {
            if (!has(at) || !from.has(line)) {
                return;
            }
            sizes[at] = from.sizes[line];
            System.arraycopy(from.words, line * MOST_WORDS, words, at * MOST_WORDS, sizes[at]);
        }

        void insertLine(int at, Edition from, int line) {
            if (lines >= MOST_LINES) {
                return;
            }
            lines++;
            for (int later = lines - 1; later > at; later--) {
                setLine(later, this, later - 1);
            }
            setLine(at, from, line);
        }

        void removeLine(int at) {
            if (!has(at)) {
                return;
            }
            for (int later = at + 1; later < lines; later++) {
                setLine(later - 1, this, later);
            }
            lines--;
        }

        void arrangeFrom(Edition before, int from, int n, int at) {
            for (int line = 0; line < lines; line++) {
                setLine(line, before, sourceOf(line, from, n, at));
            }
        }

        private static int sourceOf(int line, int from, int n, int at) {
            if (line >= at && line < at + n) {
                return from + line - at;
            }
            int left = line < at ? line : line - n;
            return left < from ? left : left + n;
        }
    }

    /** Reads a tape into a draft, so that a fault leaves the editions as they are. */
    private static final class Reader {
        final Edition draft = new Edition();
        int fault = 0;
        int place = 0;
        private int words = 0;
        private int letters = 0;

        boolean read(Tape tape, boolean whole) {
            draft.lines = 0;
            fault = 0;
            words = 0;
            letters = 0;
            int limit = whole ? EDITION_BYTES : LINE_BYTES;
            for (int at = 0; at < tape.length && fault == 0; at++) {
                place = at;
                fault = at < limit ? readByte(tape.bytes[at], whole) : FORM_FAULT;
            }
            if (fault == 0) {
                place = tape.length;
                fault = readEnd(whole);
            }
            return fault == 0;
        }

        private int readByte(int sign, boolean whole) {
            if (sign >= 'a' && sign <= 'z') {
                return readLetter(sign - 'a' + 1);
            }
            letters = 0;
            if (sign == ' ' || sign == '\n') {
                return 0;
            }
            return sign == ';' && whole ? closeLine() : FORM_FAULT;
        }

        private int readLetter(int letter) {
            if (draft.lines >= MOST_LINES || letters >= MOST_LETTERS) {
                return SIZE_FAULT;
            }
            if (letters == 0) {
                if (words >= MOST_WORDS) {
                    return SIZE_FAULT;
                }
                draft.words[draft.lines * MOST_WORDS + words] = 0;
                words++;
            }
            draft.words[draft.lines * MOST_WORDS + words - 1] |= letter << (5 * letters);
            letters++;
            return 0;
        }

        private int closeLine() {
            if (words == 0 || draft.lines >= MOST_LINES) {
                return FORM_FAULT;
            }
            draft.sizes[draft.lines] = words;
            draft.lines++;
            words = 0;
            return 0;
        }

        private int readEnd(boolean whole) {
            if (whole) {
                return words == 0 ? 0 : FORM_FAULT;
            }
            return closeLine();
        }
    }

    /** The editions as they were ahead of the latest steps, the oldest given up for the newest. */
    private static final class Past {
        final Edition[] editions = new Edition[MOST_STEPS];
        final int[] which = new int[MOST_STEPS];
        int count = 0;
        private int next = 0;

        Past() {
            for (int step = 0; step < MOST_STEPS; step++) {
                editions[step] = new Edition();
            }
        }

        void keep(int whose, Edition edition) {
            which[next] = whose;
            editions[next].copyAll(edition);
            next = next + 1 < MOST_STEPS ? next + 1 : 0;
            count = Math.min(count + 1, MOST_STEPS);
        }

        int stepBack() {
            next = next > 0 ? next - 1 : MOST_STEPS - 1;
            count = Math.max(count - 1, 0);
            return next;
        }

        void forget() {
            count = 0;
        }
    }

    /** The longest row that two rows of numbers have in common, in order. */
    private static final class CommonRow {
        private static final int SIDE = MOST_LINES + 1;

        private final int[] first = new int[MOST_LINES];
        private final int[] second = new int[MOST_LINES];
        private final int[] longest = new int[SIDE * SIDE];
        private int firsts = 0;
        private int seconds = 0;

        void setFirst(int[] row, int from, int count) {
            firsts = copyRow(row, from, count, first);
        }

        void setSecond(int[] row, int from, int count) {
            seconds = copyRow(row, from, count, second);
        }

        private static int copyRow(int[] row, int from, int count, int[] to) {
            if (from < 0 || count < 0 || count > to.length || from > row.length - count) {
                return 0;
            }
            System.arraycopy(row, from, to, 0, count);
            return count;
        }

        /** Measured from the ends on: partnerOf must know at each place what is still to come. */
        int measure() {
            for (int j = 0; j <= seconds; j++) {
                longest[firsts * SIDE + j] = 0;
            }
            for (int i = firsts - 1; i >= 0; i--) {
                int number = first[i];
                int here = i * SIDE;
                int next = here + SIDE;
                int best = 0;
                longest[here + seconds] = 0;
                for (int j = seconds - 1; j >= 0; j--) {
                    if (number == second[j]) {
                        best = longest[next + j + 1] + 1;
                    } else if (best < longest[next + j]) {
                        best = longest[next + j];
                    }
                    longest[here + j] = best;
                }
            }
            return longest[0];
        }

        /** Of what was measured last: the place in the second row that goes with place k of the first. */
        int partnerOf(int k) {
            int todo = longest[0];
            int free = 0;
            for (int i = 0; i < firsts && i <= k && todo > 0; i++) {
                int j = nextLike(first[i], free);
                if (j < seconds && longest[(i + 1) * SIDE + j + 1] == todo - 1) {
                    if (i == k) {
                        return j;
                    }
                    todo--;
                    free = j + 1;
                }
            }
            return NONE;
        }

        private int nextLike(int number, int from) {
            int j = from;
            while (j < seconds && second[j] != number) {
                j++;
            }
            return j;
        }
    }

    /** Lines as numbers: a line of OLD and one of OLD or NEW have the same, if they are alike. */
    private static final class Kinds {
        final int[] olds = new int[MOST_LINES];
        final int[] news = new int[MOST_LINES];
        int oldLines = 0;
        int newLines = 0;

        void number(Edition old, Edition fresh) {
            oldLines = old.lines;
            newLines = fresh.lines;
            for (int line = 0; line < oldLines; line++) {
                olds[line] = firstLike(old, line, old, line);
            }
            for (int line = 0; line < newLines; line++) {
                // lines that OLD does not have need not be told apart: they only ever meet lines of OLD
                news[line] = firstLike(fresh, line, old, oldLines);
            }
        }

        /** The first of the given lines that is like this one; as many as were given, if none is. */
        private static int firstLike(Edition edition, int line, Edition among, int given) {
            int candidate = 0;
            while (candidate < given && !edition.isLike(line, among, candidate)) {
                candidate++;
            }
            return candidate;
        }

        boolean areAlike(int oldLine, int newLine) {
            return oldLine >= 0 && oldLine < oldLines && newLine >= 0 && newLine < newLines
                    && olds[oldLine] == news[newLine];
        }
    }

    /** What a comparison tells of each line. */
    private static final class Told {
        final int[][] how = new int[2][MOST_LINES];
        final int[][] with = new int[2][MOST_LINES];
        final int[][] blockOf = new int[2][MOST_LINES];
        final int[] couples = new int[3];
        final int[] blockOld = new int[MOST_LINES];
        final int[] blockNew = new int[MOST_LINES];
        final int[] blockLines = new int[MOST_LINES];
        int blocks = 0;
        int firstAnchors = 0;
        int firstRun = 0;
        int changedWords = 0;

        void clear() {
            for (int which = OLD; which <= NEW; which++) {
                for (int line = 0; line < MOST_LINES; line++) {
                    how[which][line] = LOOSE;
                    with[which][line] = NONE;
                    blockOf[which][line] = NONE;
                }
            }
            couples[KEPT] = 0;
            couples[MOVED] = 0;
            couples[EDITED] = 0;
            blocks = 0;
            firstAnchors = 0;
            firstRun = 0;
            changedWords = 0;
        }

        boolean isLoose(int which, int line) {
            return line >= 0 && line < MOST_LINES && how[which][line] == LOOSE;
        }

        void join(int as, int oldLine, int newLine, int ofBlock) {
            if (!isLoose(OLD, oldLine) || !isLoose(NEW, newLine)) {
                return;
            }
            how[OLD][oldLine] = as;
            how[NEW][newLine] = as;
            with[OLD][oldLine] = newLine;
            with[NEW][newLine] = oldLine;
            blockOf[OLD][oldLine] = ofBlock;
            blockOf[NEW][newLine] = ofBlock;
            couples[as]++;
        }

        void moveBlock(int oldLine, int newLine, int lines) {
            if (blocks >= MOST_LINES) {
                return;
            }
            blockOld[blocks] = oldLine;
            blockNew[blocks] = newLine;
            blockLines[blocks] = lines;
            for (int k = 0; k < lines; k++) {
                join(MOVED, oldLine + k, newLine + k, blocks);
            }
            blocks++;
        }

        int allCouples() {
            return couples[KEPT] + couples[MOVED] + couples[EDITED];
        }

        /** Places without a line are told alike in both, so they need no leaving out. */
        int differencesFrom(Told other) {
            int differences = 0;
            for (int which = OLD; which <= NEW; which++) {
                for (int line = 0; line < MOST_LINES; line++) {
                    if (how[which][line] != other.how[which][line]
                            || with[which][line] != other.with[which][line]) {
                        differences++;
                    }
                }
            }
            return differences;
        }
    }

    /** Finds the lines that are kept. Ranges wait in a row instead of a recursion. */
    private static final class Keeper {
        // each range has an old line that no other range keeps or leaves loose: there are no more than lines
        private final int[] oldFrom = new int[MOST_LINES];
        private final int[] oldTo = new int[MOST_LINES];
        private final int[] newFrom = new int[MOST_LINES];
        private final int[] newTo = new int[MOST_LINES];
        private int ranges = 0;
        private final int[] anchorOld = new int[MOST_LINES];
        private final int[] anchorNew = new int[MOST_LINES];
        private final int[] rise = new int[MOST_LINES];
        private int found = 0;

        void keep(Kinds kinds, Told told) {
            ranges = 0;
            addRange(0, kinds.oldLines, 0, kinds.newLines);
            for (int range = 0; range < ranges && range < MOST_LINES; range++) {
                keepEnds(range, kinds, told);
                findAnchors(range, kinds);
                int run = measureRuns();
                if (range == 0) {
                    told.firstAnchors = found;
                    told.firstRun = run;
                }
                if (run > 0) {
                    keepRun(range, run, told);
                }
            }
        }

        private void addRange(int fromOld, int toOld, int fromNew, int toNew) {
            if (fromOld >= toOld || fromNew >= toNew || ranges >= MOST_LINES) {
                return;
            }
            oldFrom[ranges] = fromOld;
            oldTo[ranges] = toOld;
            newFrom[ranges] = fromNew;
            newTo[ranges] = toNew;
            ranges++;
        }

        private void keepEnds(int range, Kinds kinds, Told told) {
            while (oldFrom[range] < oldTo[range] && newFrom[range] < newTo[range]
                    && kinds.areAlike(oldFrom[range], newFrom[range])) {
                told.join(KEPT, oldFrom[range], newFrom[range], NONE);
                oldFrom[range]++;
                newFrom[range]++;
            }
            while (oldFrom[range] < oldTo[range] && newFrom[range] < newTo[range]
                    && kinds.areAlike(oldTo[range] - 1, newTo[range] - 1)) {
                oldTo[range]--;
                newTo[range]--;
                told.join(KEPT, oldTo[range], newTo[range], NONE);
            }
        }

        private void findAnchors(int range, Kinds kinds) {
            found = 0;
            for (int line = oldFrom[range]; line < oldTo[range]; line++) {
                int kind = kinds.olds[line];
                int there = onlyPlace(kind, kinds.news, newFrom[range], newTo[range]);
                if (there != NONE && onlyPlace(kind, kinds.olds, oldFrom[range], oldTo[range]) != NONE) {
                    anchorOld[found] = line;
                    anchorNew[found] = there;
                    found++;
                }
            }
        }

        private static int onlyPlace(int kind, int[] kinds, int from, int to) {
            int place = NONE;
            for (int line = from; line < to; line++) {
                if (kinds[line] == kind) {
                    if (place != NONE) {
                        return NONE;
                    }
                    place = line;
                }
            }
            return place;
        }

        /** For each anchor the longest run that it begins: so the earliest longest run can be read off. */
        private int measureRuns() {
            int longest = 0;
            for (int anchor = found - 1; anchor >= 0; anchor--) {
                rise[anchor] = 1;
                for (int later = anchor + 1; later < found; later++) {
                    if (anchorNew[later] > anchorNew[anchor]) {
                        rise[anchor] = Math.max(rise[anchor], rise[later] + 1);
                    }
                }
                longest = Math.max(longest, rise[anchor]);
            }
            return longest;
        }

        private void keepRun(int range, int run, Told told) {
            int todo = run;
            int nextOld = oldFrom[range];
            int nextNew = newFrom[range];
            for (int anchor = 0; anchor < found; anchor++) {
                if (rise[anchor] == todo && anchorNew[anchor] >= nextNew) {
                    addRange(nextOld, anchorOld[anchor], nextNew, anchorNew[anchor]);
                    told.join(KEPT, anchorOld[anchor], anchorNew[anchor], NONE);
                    nextOld = anchorOld[anchor] + 1;
                    nextNew = anchorNew[anchor] + 1;
                    todo--;
                }
            }
            addRange(nextOld, oldTo[range], nextNew, newTo[range]);
        }
    }

    /** Compares two editions; its rows are used again by each comparison. */
    private static final class Comparer {
        private final Kinds kinds = new Kinds();
        private final Keeper keeper = new Keeper();
        private final CommonRow common = new CommonRow();
        private final int[][] likeness = new int[MOST_LINES][MOST_LINES];

        void compare(Edition old, Edition fresh, Told told) {
            kinds.number(old, fresh);
            told.clear();
            keeper.keep(kinds, told);
            // each round joins a line of OLD at least, so there are no more rounds than lines
            boolean again = true;
            for (int round = 0; round < MOST_LINES && again; round++) {
                again = moveLongest(told);
            }
            measureLikeness(old, fresh, told);
            again = true;
            for (int round = 0; round < MOST_LINES && again; round++) {
                again = editLikest(old, fresh, told);
            }
            told.changedWords += looseWords(OLD, old, told) + looseWords(NEW, fresh, told);
        }

        int mostLines(Edition old, Edition fresh) {
            kinds.number(old, fresh);
            common.setFirst(kinds.olds, 0, kinds.oldLines);
            common.setSecond(kinds.news, 0, kinds.newLines);
            return common.measure();
        }

        private boolean moveLongest(Told told) {
            int longest = 0;
            int fromOld = 0;
            int fromNew = 0;
            for (int i = 0; i < kinds.oldLines; i++) {
                for (int j = 0; j < kinds.newLines; j++) {
                    int lines = looseRow(i, j, told);
                    if (lines > longest) {
                        longest = lines;
                        fromOld = i;
                        fromNew = j;
                    }
                }
            }
            if (longest > 0) {
                told.moveBlock(fromOld, fromNew, longest);
            }
            return longest > 0;
        }

        private int looseRow(int oldLine, int newLine, Told told) {
            int lines = 0;
            while (lines < MOST_LINES
                    && kinds.areAlike(oldLine + lines, newLine + lines)
                    && told.isLoose(OLD, oldLine + lines)
                    && told.isLoose(NEW, newLine + lines)) {
                lines++;
            }
            return lines;
        }

        private void measureLikeness(Edition old, Edition fresh, Told told) {
            for (int i = 0; i < old.lines; i++) {
                if (told.isLoose(OLD, i)) {
                    common.setFirst(old.words, i * MOST_WORDS, old.sizeOf(i));
                    for (int j = 0; j < fresh.lines; j++) {
                        likeness[i][j] = told.isLoose(NEW, j) ? likenessTo(fresh, j, old.sizeOf(i)) : 0;
                    }
                }
            }
        }

        /** Words shared with the row that is given; 0, if they are too few for an edited line. */
        private int likenessTo(Edition fresh, int newLine, int oldSize) {
            int newSize = fresh.sizeOf(newLine);
            int longer = Math.max(oldSize, newSize);
            if (2 * Math.min(oldSize, newSize) < longer) {
                return 0;
            }
            common.setSecond(fresh.words, newLine * MOST_WORDS, newSize);
            int words = common.measure();
            return 2 * words >= longer ? words : 0;
        }

        private boolean editLikest(Edition old, Edition fresh, Told told) {
            int likest = 0;
            int oldLine = 0;
            int newLine = 0;
            for (int i = 0; i < old.lines; i++) {
                for (int j = 0; j < fresh.lines; j++) {
                    if (told.isLoose(OLD, i) && told.isLoose(NEW, j) && likeness[i][j] > likest) {
                        likest = likeness[i][j];
                        oldLine = i;
                        newLine = j;
                    }
                }
            }
            if (likest > 0) {
                told.join(EDITED, oldLine, newLine, NONE);
                told.changedWords += old.sizeOf(oldLine) + fresh.sizeOf(newLine) - 2 * likest;
            }
            return likest > 0;
        }

        private static int looseWords(int which, Edition edition, Told told) {
            int words = 0;
            for (int line = 0; line < edition.lines; line++) {
                words += told.isLoose(which, line) ? edition.sizeOf(line) : 0;
            }
            return words;
        }
    }
}
