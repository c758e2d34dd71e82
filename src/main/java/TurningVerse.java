import java.util.Arrays;

/**
 * Poems whose stanzas all end their lines with the same words, in an order that turns from stanza to
 * stanza by a permutation, as in a sestina.
 *
 * <p>Permutations, stanzas, lines of the tail and the sounds are all held as packed rows (see Row), so
 * that no call makes an object: all that a call needs is made once, in the constructor.
 */
public final class TurningVerse {
    public static final int BAD = -1, STATE = -2, FULL = -3, NONE = -9;

    private static final int LEAST_LINES = 2;
    private static final int MOST_LINES = 7;
    private static final int LINES_AT_FIRST = 6;
    private static final int MOST_PERMUTATIONS = 5040;
    /** No permutation of seven lines has a greater order. */
    private static final int MOST_ORDER = 12;
    private static final int REGISTERS = 6;
    private static final int SETS_OF_REGISTERS = 1 << REGISTERS;
    private static final int SOUNDS = 4;
    private static final int MOST_STANZAS = 8;
    private static final int MOST_TAIL_LINES = 4;
    private static final int MOST_TAIL_WORDS = 3;
    private static final int MOST_BYTES = 80;
    private static final int MOST_REMEMBERED = 8;
    private static final int MOST_POWER = 1000000;
    private static final int MOST_ROOT = 12;
    private static final int MOST_TURNS = 100;
    private static final int KINDS = 6;
    private static final int PROPERTIES = 7;
    private static final int NUMBERS_OF_TAIL = 4;
    private static final int NUMBERS_TOLD = 6;
    private static final long DIGEST_AT_FIRST = 12674L;

    /** What a reader answers for a text without a fault. */
    private static final int RIGHT = -1;
    /** What a text with the fault 0 is answered with; further faults lie below it. */
    private static final int FAULT = -10;
    /** Stands where there is no packed row; packed rows are never negative. */
    private static final int NO_ROW = -1;

    private final State now;
    private final History history;
    private final Text text;
    private final PoemReader poemReader;
    private final TurnReader turnReader;
    private final Search search;
    private final Fit fit;
    private final int[] schemesSeen;

    public TurningVerse() {
        now = new State();
        history = new History();
        text = new Text();
        poemReader = new PoemReader();
        turnReader = new TurnReader();
        search = new Search();
        fit = new Fit();
        schemesSeen = new int[MOST_ORDER];
    }

    // ---- words

    public int setWords(int n) {
        if (n < LEAST_LINES || n > MOST_LINES) {
            return BAD;
        }
        history.remember(now);
        int before = now.n;
        now.startWith(n);
        return before;
    }

    public int setSound(int w, int v) {
        if (!isLine(w) || v < 0 || v >= SOUNDS) {
            return BAD;
        }
        history.remember(now);
        int before = Row.entry(now.sounds, w);
        now.sounds = Row.with(now.sounds, w, v);
        return before;
    }

    // ---- texts

    public int type(int c) {
        if (c < 33 || c > 126) {
            return BAD;
        }
        if (text.length >= MOST_BYTES) {
            return FULL;
        }
        text.append(c);
        return text.length;
    }

    public int clear() {
        int before = text.length;
        text.length = 0;
        return before;
    }

    public int loadPoem() {
        int fault = poemReader.readText(text);
        if (fault != RIGHT) {
            return FAULT - fault;
        }
        history.remember(now);
        if (poemReader.n != now.n) {
            now.startWith(poemReader.n);
        }
        now.poem.copyFrom(poemReader.poem);
        return now.poem.count;
    }

    public int loadTurn(int r) {
        if (!isRegister(r)) {
            return BAD;
        }
        int fault = turnReader.readText(text, now.n);
        if (fault != RIGHT) {
            return FAULT - fault;
        }
        return store(r, turnReader.permutation);
    }

    // ---- permutations

    public int make(int r, int kind, int k) {
        if (!isRegister(r) || kind < 0 || kind >= KINDS || !isLine(k)) {
            return BAD;
        }
        return store(r, Permutation.ofKind(kind, k, now.n));
    }

    public int product(int a, int b, int to) {
        if (!isRegister(a) || !isRegister(b) || !isRegister(to)) {
            return BAD;
        }
        return store(to, Row.turned(now.registers[a], now.registers[b], now.n));
    }

    public int power(int a, int k, int to) {
        if (!isRegister(a) || k < -MOST_POWER || k > MOST_POWER || !isRegister(to)) {
            return BAD;
        }
        int p = now.registers[a];
        int base = k < 0 ? Permutation.inverse(p, now.n) : p;
        return store(to, Permutation.repeated(base, Math.abs(k), now.n));
    }

    public int unrank(int r, int k) {
        if (!isRegister(r) || k < 0 || k >= Permutation.count(now.n)) {
            return BAD;
        }
        int p = Permutation.numbered(k, now.n);
        store(r, p);
        return Permutation.order(p, now.n);
    }

    public int root(int a, int k, int to) {
        if (!isRegister(a) || k < 1 || k > MOST_ROOT || !isRegister(to)) {
            return BAD;
        }
        int found = Permutation.firstRoot(now.registers[a], k, now.n);
        if (found == NO_ROW) {
            history.remember(now);
            return NONE;
        }
        return store(to, found);
    }

    public int at(int r, int i) {
        if (!isRegister(r) || !isLine(i)) {
            return BAD;
        }
        return Row.entry(now.registers[r], i);
    }

    public int turn(int r, int what) {
        if (!isRegister(r) || what < 0 || what >= PROPERTIES) {
            return BAD;
        }
        return Permutation.property(now.registers[r], what, now.n);
    }

    public int places(int r, int i, int k) {
        if (!isRegister(r) || !isLine(i) || k < 0 || k > MOST_TURNS) {
            return BAD;
        }
        int back = Permutation.inverse(now.registers[r], now.n);
        int line = i;
        int lines = 1 << line;
        for (int turns = 0; turns < k; turns++) {
            line = Row.entry(back, line);
            lines |= 1 << line;
        }
        return lines;
    }

    public int generated(int set) {
        if (!isSetOfRegisters(set)) {
            return BAD;
        }
        search.spread(now, set);
        return search.count;
    }

    public int reach(int set, int r) {
        if (!isSetOfRegisters(set) || !isRegister(r)) {
            return BAD;
        }
        search.spread(now, set);
        int factors = search.depthOf(now.registers[r]);
        return factors == Search.UNSEEN ? NONE : factors;
    }

    public int factor(int set, int r, int i) {
        if (!isSetOfRegisters(set) || !isRegister(r) || i < 0) {
            return BAD;
        }
        search.spread(now, set);
        int p = now.registers[r];
        // Without a product the depth is below 0, and so below each i.
        return i < search.depthOf(p) ? search.factorAt(p, i) : NONE;
    }

    // ---- poems

    public int add(int r) {
        if (!isRegister(r)) {
            return BAD;
        }
        Poem poem = now.poem;
        if (poem.count >= MOST_STANZAS) {
            return FULL;
        }
        history.remember(now);
        if (poem.count == 0) {
            poem.append(Row.ascending(now.n));
        } else {
            poem.append(Row.turned(poem.rows[poem.count - 1], now.registers[r], now.n));
        }
        return poem.count;
    }

    public int drop() {
        if (now.poem.count == 0) {
            return STATE;
        }
        history.remember(now);
        now.poem.count--;
        return now.poem.count;
    }

    public int put(int s, int i, int w) {
        if (!isStanza(s) || !isLine(i) || !isLine(w)) {
            return BAD;
        }
        history.remember(now);
        int row = now.poem.rows[s];
        now.poem.rows[s] = Row.with(row, i, w);
        return Row.entry(row, i);
    }

    public int lock(int s, int i, boolean on) {
        if (!isStanza(s) || !isLine(i)) {
            return BAD;
        }
        history.remember(now);
        int locks = now.poem.locks[s];
        int place = 1 << i;
        now.poem.locks[s] = on ? locks | place : locks & ~place;
        return locks >> i & 1;
    }

    public int word(int s, int i) {
        if (!isStanza(s) || !isLine(i)) {
            return BAD;
        }
        return Row.entry(now.poem.rows[s], i);
    }

    public int proper(int s) {
        if (!isStanza(s)) {
            return BAD;
        }
        return Row.hasEach(now.poem.rows[s], now.n) ? 1 : 0;
    }

    public int turning(int s) {
        if (!isStanza(s)) {
            return BAD;
        }
        int p = now.poem.turnBehind(s, now.n);
        return p == NO_ROW ? NONE : Permutation.number(p, now.n);
    }

    public int common(int to) {
        if (!isRegister(to)) {
            return BAD;
        }
        int p = now.poem.turnBehind(0, now.n);
        if (p == NO_ROW || !now.poem.turnsBy(p, now.n)) {
            history.remember(now);
            return NONE;
        }
        return store(to, p);
    }

    public int follows(int r) {
        if (!isRegister(r)) {
            return BAD;
        }
        return now.poem.turnsBy(now.registers[r], now.n) ? 1 : 0;
    }

    public int cost(int r) {
        if (!isRegister(r)) {
            return BAD;
        }
        if (now.poem.count == 0) {
            return STATE;
        }
        return fit.changes(now.poem, now.registers[r], now.n);
    }

    public int mend(int r) {
        if (!isRegister(r)) {
            return BAD;
        }
        if (now.poem.count == 0) {
            return STATE;
        }
        history.remember(now);
        int p = now.registers[r];
        int changes = fit.changes(now.poem, p, now.n);
        if (changes != NONE) {
            now.poem.rewrite(fit.firstRow(), p, now.n);
        }
        return changes;
    }

    public int best(int to) {
        if (!isRegister(to)) {
            return BAD;
        }
        if (now.poem.count == 0) {
            return STATE;
        }
        history.remember(now);
        int p = fit.bestPermutation(now.poem, now.n);
        if (p == NO_ROW) {
            return NONE;
        }
        now.registers[to] = p;
        return fit.changes(now.poem, p, now.n);
    }

    public int tail(int what) {
        if (what < 0 || what >= NUMBERS_OF_TAIL) {
            return BAD;
        }
        Poem poem = now.poem;
        int missing = ((1 << now.n) - 1) & ~poem.wordsOfTail();
        switch (what) {
            case 0:
                return poem.tailLines;
            case 1:
                return poem.lengthOfTail();
            case 2:
                return missing;
            default:
                return poem.lengthOfTail() < now.n ? NONE : Integer.bitCount(missing);
        }
    }

    public int tailWord(int line, int k) {
        if (line < 0 || line >= now.poem.tailLines || k < 0) {
            return BAD;
        }
        if (k >= now.poem.tailLengths[line]) {
            return NONE;
        }
        return Row.entry(now.poem.tailRows[line], k);
    }

    // ---- rhymes

    public int scheme(int s) {
        if (!isStanza(s)) {
            return BAD;
        }
        return Rhymes.pattern(soundsOf(s), now.n);
    }

    public int schemes(int s, int r) {
        if (!isStanza(s) || !isRegister(r)) {
            return BAD;
        }
        int p = now.registers[r];
        return Rhymes.differentPatterns(soundsOf(s), p, now.n, schemesSeen);
    }

    public int coupled(int s) {
        if (!isStanza(s)) {
            return BAD;
        }
        return Rhymes.mostNeighborly(soundsOf(s), now.n);
    }

    // ---- the whole

    public int told(int what) {
        if (what < 0 || what >= NUMBERS_TOLD) {
            return BAD;
        }
        switch (what) {
            case 0:
                return now.n;
            case 1:
                return now.poem.count;
            case 2:
                return now.poem.properStanzas(now.n);
            case 3:
                return now.poem.lockedPlaces();
            case 4:
                return text.length;
            default:
                return history.count;
        }
    }

    public int undo() {
        if (history.count == 0) {
            return STATE;
        }
        history.restore(now);
        return history.count;
    }

    public long digest() {
        long h = DIGEST_AT_FIRST;
        for (int what = 0; what < NUMBERS_TOLD; what++) {
            h = mixed(h, told(what));
        }
        for (int w = 0; w < now.n; w++) {
            h = mixed(h, Row.entry(now.sounds, w));
        }
        for (int r = 0; r < REGISTERS; r++) {
            for (int what = 0; what < PROPERTIES; what++) {
                h = mixed(h, turn(r, what));
            }
        }
        for (int s = 0; s < now.poem.count; s++) {
            h = withStanza(h, s);
        }
        for (int r = 0; r < REGISTERS; r++) {
            h = mixed(h, follows(r));
        }
        return withTail(h);
    }

    private long withStanza(long before, int s) {
        long h = before;
        for (int i = 0; i < now.n; i++) {
            h = mixed(h, word(s, i));
        }
        for (int i = 0; i < now.n; i++) {
            h = mixed(h, now.poem.locks[s] >> i & 1);
        }
        h = mixed(h, turning(s));
        return mixed(h, scheme(s));
    }

    private long withTail(long before) {
        long h = before;
        for (int what = 0; what < NUMBERS_OF_TAIL; what++) {
            h = mixed(h, tail(what));
        }
        for (int line = 0; line < now.poem.tailLines; line++) {
            for (int k = 0; k < now.poem.tailLengths[line]; k++) {
                h = mixed(h, tailWord(line, k));
            }
        }
        return h;
    }

    private static long mixed(long h, long v) {
        return 31L * h + v;
    }

    private static boolean isRegister(int r) {
        return r >= 0 && r < REGISTERS;
    }

    private static boolean isSetOfRegisters(int set) {
        return set >= 0 && set < SETS_OF_REGISTERS;
    }

    /** Also tells whether there is a word i: there are as many words as lines. */
    private boolean isLine(int i) {
        return i >= 0 && i < now.n;
    }

    private boolean isStanza(int s) {
        return s >= 0 && s < now.poem.count;
    }

    private int soundsOf(int s) {
        return Row.turned(now.sounds, now.poem.rows[s], now.n);
    }

    /** Writes a register, which is a change, and returns the number of the permutation. */
    private int store(int r, int p) {
        history.remember(now);
        now.registers[r] = p;
        return Permutation.number(p, now.n);
    }

    /** Rows of up to seven numbers from 0 to 7, packed into an int, three bits each. */
    private static final class Row {
        static int entry(int row, int i) {
            return row >> (3 * i) & 7;
        }

        static int with(int row, int i, int v) {
            return row & ~(7 << (3 * i)) | v << (3 * i);
        }

        static int ascending(int n) {
            int row = 0;
            for (int i = 0; i < n; i++) {
                row = with(row, i, i);
            }
            return row;
        }

        /** The row turned by p; if the row is a permutation too, this is the product of it and p. */
        static int turned(int row, int p, int n) {
            int result = 0;
            for (int i = 0; i < n; i++) {
                result = with(result, i, entry(row, entry(p, i)));
            }
            return result;
        }

        static int entries(int row, int length) {
            int set = 0;
            for (int i = 0; i < length; i++) {
                set |= 1 << entry(row, i);
            }
            return set;
        }

        static boolean hasEach(int row, int n) {
            return entries(row, n) == (1 << n) - 1;
        }
    }

    /** Permutations, packed as rows. */
    private static final class Permutation {
        static int count(int n) {
            int product = 1;
            for (int i = 2; i <= n; i++) {
                product *= i;
            }
            return product;
        }

        static int number(int p, int n) {
            int left = (1 << n) - 1;
            int number = 0;
            for (int i = 0; i < n; i++) {
                int line = 1 << Row.entry(p, i);
                number = number * (n - i) + Integer.bitCount(left & (line - 1));
                left &= ~line;
            }
            return number;
        }

        static int numbered(int number, int n) {
            int p = 0;
            int rest = number;
            for (int i = n - 1; i >= 0; i--) {
                int choices = n - i;
                int line = rest % choices;
                rest /= choices;
                // The lines behind i are numbered among themselves so far: they make room for this one.
                for (int j = i + 1; j < n; j++) {
                    int other = Row.entry(p, j);
                    if (other >= line) {
                        p = Row.with(p, j, other + 1);
                    }
                }
                p = Row.with(p, i, line);
            }
            return p;
        }

        static int ofKind(int kind, int k, int n) {
            int p = 0;
            for (int i = 0; i < n; i++) {
                p = Row.with(p, i, lineOfKind(kind, k, n, i));
            }
            return p;
        }

        private static int lineOfKind(int kind, int k, int n, int i) {
            switch (kind) {
                case 1:
                    return i % 2 == 0 ? n - 1 - i / 2 : i / 2;
                case 2:
                    return n - 1 - i;
                case 3:
                    return i + k < n ? i + k : i + k - n;
                case 4:
                    return i == 0 ? k : i == k ? 0 : i;
                case 5:
                    return lineOfWeave(n, i);
                default:
                    return i;
            }
        }

        private static int lineOfWeave(int n, int i) {
            int even = (n + 1) / 2;
            return i < even ? 2 * i : 2 * (i - even) + 1;
        }

        static int inverse(int p, int n) {
            int back = 0;
            for (int i = 0; i < n; i++) {
                back = Row.with(back, Row.entry(p, i), i);
            }
            return back;
        }

        /** The power k, by squaring; k is not negative. */
        static int repeated(int p, int k, int n) {
            int result = Row.ascending(n);
            int square = p;
            for (int rest = k; rest > 0; rest >>= 1) {
                if ((rest & 1) == 1) {
                    result = Row.turned(result, square, n);
                }
                square = Row.turned(square, square, n);
            }
            return result;
        }

        static int firstRoot(int p, int k, int n) {
            int all = count(n);
            for (int number = 0; number < all; number++) {
                int candidate = numbered(number, n);
                if (repeated(candidate, k, n) == p) {
                    return candidate;
                }
            }
            return NO_ROW;
        }

        static int order(int p, int n) {
            int identity = Row.ascending(n);
            int turned = p;
            int k = 1;
            while (turned != identity && k < MOST_ORDER) {
                turned = Row.turned(turned, p, n);
                k++;
            }
            return k;
        }

        static int property(int p, int what, int n) {
            switch (what) {
                case 0:
                    return number(p, n);
                case 1:
                    return order(p, n);
                case 2:
                    return cycles(p, n);
                case 3:
                    return fixedLines(p, n);
                case 4:
                    return longestCycle(p, n);
                case 5:
                    // A cycle of so many lines is a product of one exchange less than that.
                    return (n - cycles(p, n)) & 1;
                default:
                    return cycleType(p, n);
            }
        }

        /** How many lines the cycle has whose smallest line is i; 0 if i is not the smallest of its cycle. */
        private static int cycleOf(int p, int i, int n) {
            int line = Row.entry(p, i);
            int length = 1;
            while (line > i && length < n) {
                line = Row.entry(p, line);
                length++;
            }
            return line == i ? length : 0;
        }

        private static int cycles(int p, int n) {
            int cycles = 0;
            for (int i = 0; i < n; i++) {
                if (cycleOf(p, i, n) > 0) {
                    cycles++;
                }
            }
            return cycles;
        }

        private static int fixedLines(int p, int n) {
            int fixed = 0;
            for (int i = 0; i < n; i++) {
                if (Row.entry(p, i) == i) {
                    fixed++;
                }
            }
            return fixed;
        }

        private static int longestCycle(int p, int n) {
            int longest = 0;
            for (int i = 0; i < n; i++) {
                longest = Math.max(longest, cycleOf(p, i, n));
            }
            return longest;
        }

        private static int cycleType(int p, int n) {
            int sum = 0;
            for (int i = 0; i < n; i++) {
                int length = cycleOf(p, i, n);
                if (length > 0) {
                    sum += 1 << (3 * (length - 1));
                }
            }
            return sum;
        }
    }

    /** The stanzas with their locks, and the tail. */
    private static final class Poem {
        int count;
        int tailLines;
        final int[] rows;
        /** The locked places of each stanza, as a bit mask. */
        final int[] locks;
        final int[] tailRows;
        final int[] tailLengths;

        Poem() {
            count = 0;
            tailLines = 0;
            rows = new int[MOST_STANZAS];
            locks = new int[MOST_STANZAS];
            tailRows = new int[MOST_TAIL_LINES];
            tailLengths = new int[MOST_TAIL_LINES];
        }

        void empty() {
            count = 0;
            tailLines = 0;
        }

        void copyFrom(Poem other) {
            count = other.count;
            tailLines = other.tailLines;
            System.arraycopy(other.rows, 0, rows, 0, MOST_STANZAS);
            System.arraycopy(other.locks, 0, locks, 0, MOST_STANZAS);
            System.arraycopy(other.tailRows, 0, tailRows, 0, MOST_TAIL_LINES);
            System.arraycopy(other.tailLengths, 0, tailLengths, 0, MOST_TAIL_LINES);
        }

        void append(int row) {
            if (count < MOST_STANZAS) {
                rows[count] = row;
                locks[count] = 0;
                count++;
            }
        }

        void appendTailLine(int row, int length) {
            if (tailLines < MOST_TAIL_LINES) {
                tailRows[tailLines] = row;
                tailLengths[tailLines] = length;
                tailLines++;
            }
        }

        int properStanzas(int n) {
            int stanzas = 0;
            for (int s = 0; s < count; s++) {
                if (Row.hasEach(rows[s], n)) {
                    stanzas++;
                }
            }
            return stanzas;
        }

        int lockedPlaces() {
            int places = 0;
            for (int s = 0; s < count; s++) {
                places += Integer.bitCount(locks[s]);
            }
            return places;
        }

        /** The permutation from a stanza to the next one, or NO_ROW. */
        int turnBehind(int s, int n) {
            if (s + 1 >= count || !Row.hasEach(rows[s], n) || !Row.hasEach(rows[s + 1], n)) {
                return NO_ROW;
            }
            return Row.turned(Permutation.inverse(rows[s], n), rows[s + 1], n);
        }

        boolean turnsBy(int p, int n) {
            if (properStanzas(n) < count) {
                return false;
            }
            for (int s = 1; s < count; s++) {
                if (rows[s] != Row.turned(rows[s - 1], p, n)) {
                    return false;
                }
            }
            return true;
        }

        void rewrite(int first, int p, int n) {
            int row = first;
            for (int s = 0; s < count; s++) {
                rows[s] = row;
                row = Row.turned(row, p, n);
            }
        }

        int lengthOfTail() {
            int words = 0;
            for (int line = 0; line < tailLines; line++) {
                words += tailLengths[line];
            }
            return words;
        }

        int wordsOfTail() {
            int set = 0;
            for (int line = 0; line < tailLines; line++) {
                set |= Row.entries(tailRows[line], tailLengths[line]);
            }
            return set;
        }
    }

    /** All that undo() brings back. */
    private static final class State {
        int n;
        int sounds;
        final int[] registers;
        final Poem poem;

        State() {
            registers = new int[REGISTERS];
            poem = new Poem();
            startWith(LINES_AT_FIRST);
        }

        void startWith(int lines) {
            n = lines;
            sounds = 0;
            for (int w = 0; w < n; w++) {
                sounds = Row.with(sounds, w, w % SOUNDS);
            }
            Arrays.fill(registers, Row.ascending(n));
            poem.empty();
        }

        void copyFrom(State other) {
            n = other.n;
            sounds = other.sounds;
            System.arraycopy(other.registers, 0, registers, 0, REGISTERS);
            poem.copyFrom(other.poem);
        }
    }

    /** The remembered states, in a ring of states that are written again and again. */
    private static final class History {
        int count;
        private int next;
        private final State[] states;

        History() {
            count = 0;
            next = 0;
            states = new State[MOST_REMEMBERED];
            for (int i = 0; i < MOST_REMEMBERED; i++) {
                states[i] = new State();
            }
        }

        void remember(State state) {
            states[next].copyFrom(state);
            next = (next + 1) % MOST_REMEMBERED;
            count = Math.min(count + 1, MOST_REMEMBERED);
        }

        void restore(State state) {
            if (count > 0) {
                next = (next + MOST_REMEMBERED - 1) % MOST_REMEMBERED;
                count--;
                state.copyFrom(states[next]);
            }
        }
    }

    private static final class Text {
        /** What stands behind the last byte; no byte that can be typed is the same. */
        static final int END = 0;

        int length;
        private final int[] bytes;

        Text() {
            length = 0;
            bytes = new int[MOST_BYTES];
        }

        void append(int c) {
            if (length < MOST_BYTES) {
                bytes[length] = c;
                length++;
            }
        }

        int byteAt(int i) {
            return i >= 0 && i < length ? bytes[i] : END;
        }
    }

    /** Reads a text as a poem; its methods return the fault, or RIGHT. */
    private static final class PoemReader {
        int n;
        final Poem poem;
        private int pos;

        PoemReader() {
            poem = new Poem();
            n = 0;
            pos = 0;
        }

        int readText(Text text) {
            poem.empty();
            pos = 0;
            int fault = readFirstStanza(text);
            for (int s = 1; s < MOST_STANZAS && fault == RIGHT && text.byteAt(pos) == '/'; s++) {
                pos++;
                fault = readStanza(text);
            }
            if (fault == RIGHT && text.byteAt(pos) == ';') {
                fault = readTail(text);
            }
            if (fault == RIGHT && pos < text.length) {
                return pos;
            }
            return fault;
        }

        private int readFirstStanza(Text text) {
            int letters = 0;
            int row = 0;
            while (letters < MOST_LINES && wordBelow(text, MOST_LINES) >= 0) {
                row = Row.with(row, letters, wordBelow(text, MOST_LINES));
                letters++;
                pos++;
            }
            if (letters < LEAST_LINES || !isStanzaOver(text)) {
                return pos;
            }
            // How many words there are is known only now.
            for (int i = 0; i < letters; i++) {
                if (Row.entry(row, i) >= letters) {
                    return i;
                }
            }
            n = letters;
            poem.append(row);
            return RIGHT;
        }

        private int readStanza(Text text) {
            int row = 0;
            for (int i = 0; i < n; i++) {
                int word = wordBelow(text, n);
                if (word < 0) {
                    return pos;
                }
                row = Row.with(row, i, word);
                pos++;
            }
            poem.append(row);
            return isStanzaOver(text) ? RIGHT : pos;
        }

        private int readTail(Text text) {
            int lines = 0;
            do {
                // Over the ; ahead of the first line, or the , ahead of another one.
                pos++;
                int words = readTailLine(text);
                if (words == 0) {
                    return pos;
                }
                lines++;
            } while (lines < MOST_TAIL_LINES && text.byteAt(pos) == ',');
            return RIGHT;
        }

        /** Returns how many words there are. */
        private int readTailLine(Text text) {
            int words = 0;
            int row = 0;
            while (words < MOST_TAIL_WORDS && wordBelow(text, n) >= 0) {
                row = Row.with(row, words, wordBelow(text, n));
                words++;
                pos++;
            }
            poem.appendTailLine(row, words);
            return words;
        }

        /** The word whose letter is the byte at pos; below 0 if it is none of so many words. */
        private int wordBelow(Text text, int words) {
            int word = text.byteAt(pos) - 'a';
            return word < words ? word : -1;
        }

        private boolean isStanzaOver(Text text) {
            int c = text.byteAt(pos);
            return c == '/' || c == ';' || c == Text.END;
        }
    }

    /** Reads a text as a permutation, which is written as its cycles. */
    private static final class TurnReader {
        int permutation;

        TurnReader() {
            permutation = 0;
        }

        /** Returns the fault, or RIGHT. */
        int readText(Text text, int n) {
            permutation = Row.ascending(n);
            int written = 0;
            boolean inside = false;
            int first = -1;
            int last = -1;
            for (int pos = 0; pos < text.length; pos++) {
                int c = text.byteAt(pos);
                if (!inside) {
                    if (c != '(') {
                        return pos;
                    }
                    inside = true;
                    first = -1;
                } else if (c == ')' && first >= 0) {
                    permutation = Row.with(permutation, last, first);
                    inside = false;
                } else {
                    int line = c - '1';
                    if (line < 0 || line >= n || (written >> line & 1) == 1) {
                        return pos;
                    }
                    written |= 1 << line;
                    if (first < 0) {
                        first = line;
                    } else {
                        permutation = Row.with(permutation, last, line);
                    }
                    last = line;
                }
            }
            return inside ? text.length : RIGHT;
        }
    }

    /** Goes through the products of the permutations in some registers, the shorter ones first. */
    private static final class Search {
        static final int UNSEEN = -1;

        int count;
        private int n;
        private int set;
        private final int[] factors;
        /** The products, in the order in which they were come upon. */
        private final int[] found;
        /** By the number of a permutation: the fewest factors of it, or UNSEEN. */
        private final int[] depths;

        Search() {
            count = 0;
            n = 0;
            set = 0;
            factors = new int[REGISTERS];
            found = new int[MOST_PERMUTATIONS];
            depths = new int[MOST_PERMUTATIONS];
        }

        void spread(State state, int registers) {
            n = state.n;
            set = registers;
            System.arraycopy(state.registers, 0, factors, 0, REGISTERS);
            Arrays.fill(depths, UNSEEN);
            count = 0;
            note(Row.ascending(n), 0);
            for (int i = 0; i < count && i < MOST_PERMUTATIONS; i++) {
                int depth = depthOf(found[i]);
                for (int r = 0; r < REGISTERS; r++) {
                    if (isFactor(r)) {
                        note(Row.turned(found[i], factors[r], n), depth + 1);
                    }
                }
            }
        }

        int depthOf(int p) {
            int number = Permutation.number(p, n);
            return number >= 0 && number < MOST_PERMUTATIONS ? depths[number] : UNSEEN;
        }

        /** The factor i of the shortest product for p; i is below the depth of p. */
        int factorAt(int p, int i) {
            int rest = p;
            for (int k = 0; k < i; k++) {
                rest = without(firstFactor(rest), rest);
            }
            return firstFactor(rest);
        }

        private void note(int p, int depth) {
            int number = Permutation.number(p, n);
            if (number >= 0 && number < MOST_PERMUTATIONS && depths[number] == UNSEEN && count < MOST_PERMUTATIONS) {
                depths[number] = depth;
                found[count] = p;
                count++;
            }
        }

        private boolean isFactor(int r) {
            return (set >> r & 1) == 1;
        }

        /** The smallest register behind which the shortest way goes on; it is there unless p is the identity. */
        private int firstFactor(int p) {
            int depth = depthOf(p);
            for (int r = 0; r < REGISTERS; r++) {
                if (isFactor(r) && depthOf(without(r, p)) == depth - 1) {
                    return r;
                }
            }
            return NONE;
        }

        /** What has to follow the factor in register r so that the product is p. */
        private int without(int r, int p) {
            if (r < 0 || r >= REGISTERS) {
                return p;
            }
            return Row.turned(Permutation.inverse(factors[r], n), p, n);
        }
    }

    /**
     * Finds the first stanza with which a poem that follows a permutation differs least from another
     * poem. Each line of the first stanza comes back once in each stanza, so that each choice of a word
     * for it leaves so many places as they are, whatever the other lines have: words are to be dealt
     * out to lines, each one once, so that as many places as possible stay.
     */
    private static final class Fit {
        private static final int IMPOSSIBLE = -1;

        private int n;
        /** By line (of the first stanza) * 8 + word: in how many stanzas this word is where the line comes to. */
        private final int[] kept;
        /** By line: the words that no locked place forbids, as a bit mask. */
        private final int[] allowed;
        /** By the set of the words of the lines ahead: how many places the further lines can keep at most. */
        private final int[] most;

        Fit() {
            n = 0;
            kept = new int[64];
            allowed = new int[8];
            most = new int[1 << MOST_LINES];
        }

        /** The cost of p, or NONE. */
        int changes(Poem poem, int p, int lines) {
            compare(poem, p, lines);
            int places = mostKept();
            return places == IMPOSSIBLE ? NONE : poem.count * n - places;
        }

        /** The first stanza of the poem of smallest cost, if changes() found one just before. */
        int firstRow() {
            int row = 0;
            int used = 0;
            for (int i = 0; i < n; i++) {
                int word = firstWord(i, used);
                row = Row.with(row, i, word);
                used |= 1 << word;
            }
            return row;
        }

        /** The first permutation of smallest cost, or NO_ROW. */
        int bestPermutation(Poem poem, int lines) {
            int best = NO_ROW;
            int mostSoFar = IMPOSSIBLE;
            int all = Permutation.count(lines);
            for (int number = 0; number < all; number++) {
                int p = Permutation.numbered(number, lines);
                compare(poem, p, lines);
                if (atMostKept() > mostSoFar) {
                    int places = mostKept();
                    if (places > mostSoFar) {
                        mostSoFar = places;
                        best = p;
                    }
                }
            }
            return best;
        }

        private void compare(Poem poem, int p, int lines) {
            n = lines;
            Arrays.fill(kept, 0);
            Arrays.fill(allowed, (1 << n) - 1);
            int from = Row.ascending(n);
            for (int s = 0; s < poem.count && s < MOST_STANZAS; s++) {
                for (int i = 0; i < n; i++) {
                    int line = Row.entry(from, i);
                    int word = Row.entry(poem.rows[s], i);
                    kept[line << 3 | word]++;
                    if ((poem.locks[s] >> i & 1) == 1) {
                        allowed[line] &= 1 << word;
                    }
                }
                from = Row.turned(from, p, n);
            }
        }

        /** The most places that can stay, or IMPOSSIBLE. */
        private int mostKept() {
            int all = (1 << n) - 1;
            most[all] = 0;
            for (int used = all - 1; used >= 0; used--) {
                int line = Integer.bitCount(used);
                int places = IMPOSSIBLE;
                for (int word = 0; word < n; word++) {
                    places = Math.max(places, keptWith(line, word, used));
                }
                most[used] = places;
            }
            return most[0];
        }

        /** The most places that the line and those behind it can keep if it gets the word, or IMPOSSIBLE. */
        private int keptWith(int line, int word, int used) {
            int bit = 1 << word;
            if ((used & bit) != 0 || (allowed[line] & bit) == 0 || most[used | bit] == IMPOSSIBLE) {
                return IMPOSSIBLE;
            }
            return kept[line << 3 | word] + most[used | bit];
        }

        private int firstWord(int line, int used) {
            for (int word = 0; word < n; word++) {
                if (most[used] != IMPOSSIBLE && keptWith(line, word, used) == most[used]) {
                    return word;
                }
            }
            return 0;
        }

        /** A quick bound for mostKept(): what could stay if lines might share words, or words lines. */
        private int atMostKept() {
            int byLines = 0;
            int byWords = 0;
            for (int i = 0; i < n; i++) {
                byLines += mostOfLine(i);
                byWords += mostOfWord(i);
            }
            return Math.min(byLines, byWords);
        }

        private int mostOfLine(int line) {
            int places = 0;
            for (int word = 0; word < n; word++) {
                places = Math.max(places, kept[line << 3 | word]);
            }
            return places;
        }

        private int mostOfWord(int word) {
            int places = 0;
            for (int line = 0; line < n; line++) {
                places = Math.max(places, kept[line << 3 | word]);
            }
            return places;
        }
    }

    /** Rhymes of a stanza, of which only the sounds of its lines matter, as a packed row. */
    private static final class Rhymes {
        /** The scheme. */
        static int pattern(int sounds, int n) {
            int number = 0;
            for (int i = 0; i < n; i++) {
                number = number * 7 + firstRhyme(sounds, i);
            }
            return number;
        }

        private static int firstRhyme(int sounds, int i) {
            int line = 0;
            while (line < i && Row.entry(sounds, line) != Row.entry(sounds, i)) {
                line++;
            }
            return line;
        }

        /** How many schemes there are; they are written to seen, which has room for MOST_ORDER of them. */
        static int differentPatterns(int sounds, int p, int n, int[] seen) {
            int count = 0;
            int order = Permutation.order(p, n);
            int row = sounds;
            for (int turns = 0; turns < order && count < seen.length; turns++) {
                int number = pattern(row, n);
                if (!isAmong(number, seen, count)) {
                    seen[count] = number;
                    count++;
                }
                row = Row.turned(row, p, n);
            }
            return count;
        }

        private static boolean isAmong(int number, int[] seen, int count) {
            for (int i = 0; i < count && i < seen.length; i++) {
                if (seen[i] == number) {
                    return true;
                }
            }
            return false;
        }

        /** The number of the first permutation that makes the most neighbors rhyme. */
        static int mostNeighborly(int sounds, int n) {
            int best = 0;
            int most = -1;
            int all = Permutation.count(n);
            for (int number = 0; number < all; number++) {
                int rhymes = neighbors(Row.turned(sounds, Permutation.numbered(number, n), n), n);
                if (rhymes > most) {
                    most = rhymes;
                    best = number;
                }
            }
            return best;
        }

        private static int neighbors(int sounds, int n) {
            int rhymes = 0;
            for (int i = 0; i + 1 < n; i++) {
                if (Row.entry(sounds, i) == Row.entry(sounds, i + 1)) {
                    rhymes++;
                }
            }
            return rhymes;
        }
    }
}
