import java.math.BigInteger;
import java.util.function.Consumer;

/** The edges that promises 33 to 38 name. */
final class RhymeEdges {
    private static final int BAD = TurningVerse.BAD, STATE = TurningVerse.STATE;

    private RhymeEdges() {
    }

    static void run() {
        promise33();
        promise34();
        promise35();
        promise36();
        promise37();
        promise38();
    }

    private static void promise33() {
        Sentences.of(33, "BAD if there is no such stanza");
        TurningVerse x = new TurningVerse();
        Sentences.refused("no stanza at all", x, () -> x.scheme(0), BAD);
        Check.loadPoem(x, "ab/aa");
        Sentences.due("the first", x.scheme(0), 1);
        Sentences.due("the last", x.scheme(1), 0);
        Sentences.outside("s", x, 0, 1, s -> x.scheme(s));
    }

    private static void promise34() {
        TurningVerse x = new TurningVerse();
        x.setWords(7);
        x.make(0, 3, 1);
        Check.loadTurn(x, 5, "(1234)(567)");
        Sentences.of(34, "turned again and again by a permutation, itself included");
        Check.loadPoem(x, "abcdefg/aaabaaa");
        Sentences.due("the identity: itself alone", x.schemes(0, 1), 1);
        // The one b goes through all lines; the scheme is another one for each.
        Sentences.due("as many as turns", x.schemes(1, 0), 7);
        Check.loadPoem(x, "aaaaaaa/abababc");
        Sentences.due("all the same", x.schemes(0, 0), 1);
        x.setSound(1, 3);
        x.setSound(2, 0);
        // 0303030: by (1234) the sounds 0303 come to lie in two ways, by (567) 030 in three.
        Sentences.due("some the same, though not one behind another", x.schemes(1, 5), 6);
        Check.loadPoem(x, "aaabaac");
        x.setSound(2, 3);
        Sentences.due("as many as there can be", x.schemes(0, 5), 12);
        Sentences.of(34, "`r`: the register of the permutation, 0 to 5");
        Sentences.due("the first", x.schemes(0, 0), 7);
        Sentences.due("the last", x.schemes(0, 5), 12);
        Sentences.of(34, "BAD if there is no such stanza or register");
        Sentences.outside("s", x, 0, 0, s -> x.schemes(s, 0));
        Sentences.outside("r", x, 0, 5, r -> x.schemes(0, r));
        x.drop();
        Sentences.refused("no stanza at all", x, () -> x.schemes(0, 0), BAD);
    }

    private static void promise35() {
        Sentences.of(35, "the most rhymes of neighbors (lines i and i + 1 whose words have the same sound)");
        TurningVerse x = new TurningVerse();
        Check.loadPoem(x, "abcdefg/aaaaaaa");
        for (int w = 0; w < 7; w++) {
            x.setSound(w, w % 6 == 0 ? 1 : 0);
        }
        // Words 0 and 6 rhyme, and the others do: 0 6 1 2 3 4 5. The last line and the first are no neighbors.
        Sentences.due("the first line and the last", x.coupled(0), 600);
        Sentences.of(35, "Returns the number of the first such permutation");
        Sentences.due("all rhyme in any order", x.coupled(1), 0);
        Check.loadPoem(x, "dcba");
        Sentences.due("none rhyme in any order", x.coupled(0), 0);
        Check.loadPoem(x, "ab");
        Sentences.due("two that do not", x.coupled(0), 0);
        x.setSound(1, 0);
        Sentences.due("two that do", x.coupled(0), 0);
        Sentences.of(35, "BAD if there is no such stanza");
        Sentences.outside("s", x, 0, 0, s -> x.coupled(s));
        x.drop();
        Sentences.refused("no stanza at all", x, () -> x.coupled(0), BAD);
    }

    private static void promise36() {
        Sentences.of(36, "`what`: 0 for n, 1 for the stanzas, 2 for the proper ones, 3 for the locked places,"
                + " 4 for the bytes of the text buffer, 5 for the remembered states");
        TurningVerse x = new TurningVerse();
        int[] first = {6, 0, 0, 0, 0, 0};
        for (int what = 0; what <= 5; what++) {
            Sentences.due("at first, " + what, x.told(what), first[what]);
        }
        Check.loadPoem(x, "ab/ba/ab/ba/ab/ba/ab/aa");
        for (int s = 0; s < 8; s++) {
            x.lock(s, 0, true);
            x.lock(s, 1, true);
        }
        for (int k = 23; k < 80; k++) {
            x.type('!');
        }
        int[] most = {2, 8, 7, 16, 80, 8};
        for (int what = 0; what <= 5; what++) {
            Sentences.due("all that there can be of it, " + what, x.told(what), most[what]);
        }
        x.put(7, 1, 1);
        Sentences.due("all are proper", x.told(2), 8);
        Sentences.of(36, "BAD if what is not 0 to 5");
        Sentences.outside("what", x, 0, 5, what -> x.told(what));
    }

    private static void promise37() {
        Sentences.of(37, "STATE if there is none");
        TurningVerse x = new TurningVerse();
        Sentences.refused("at first", x, () -> x.undo(), STATE);
        x.setWords(2);
        Sentences.due("one", x.undo(), 0);
        Sentences.due("it is as before", x.told(0), 6);
        Sentences.refused("none any more", x, () -> x.undo(), STATE);
        for (int k = 0; k < 9; k++) {
            x.setWords(2);
        }
        for (int left = 7; left >= 0; left--) {
            Sentences.due("of nine", x.undo(), left);
        }
        Sentences.refused("not nine times", x, () -> x.undo(), STATE);
        Sentences.due("the first is not undone", x.told(0), 2);
        Sentences.of(37, "The text buffer stays");
        x.setWords(3);
        Check.write(x, "(12)");
        x.undo();
        Sentences.due("its length", x.told(4), 4);
        Sentences.due("its bytes", x.loadTurn(0), 1);
        x.clear();
        x.undo();
        Sentences.due("it is not brought back", x.told(4), 0);
    }

    private static long with(long h, long... values) {
        long sum = h;
        for (long v : values) {
            sum = sum * 31 + v;
        }
        return sum;
    }

    private static void promise38() {
        Sentences.of(38, "h is 12674 at first");
        TurningVerse x = new TurningVerse();
        x.setWords(2);
        long[] identity = {0, 1, 2, 2, 1, 0, 2};
        long h = with(12674, 2, 0, 0, 0, 0, 1, 0, 1);
        for (int r = 0; r < 6; r++) {
            h = with(h, identity);
        }
        Sentences.due("neither a stanza nor a tail", x.digest(), with(h, 1, 1, 1, 1, 1, 1, 0, 0, 3, TurningVerse.NONE));
        Sentences.of(38, "then h becomes 31 * h + v (long arithmetic that wraps around)"
                + " for each of these values v, in this order: told() for 0 to 5");
        x.make(0, 2, 0);
        BigInteger big = unbounded(BigInteger.valueOf(12674), 2, 0, 0, 0, 0, 2, 0, 1);
        big = unbounded(big, 1, 2, 1, 0, 2, 1, 8);
        for (int r = 1; r < 6; r++) {
            big = unbounded(big, identity);
        }
        big = unbounded(big, 1, 1, 1, 1, 1, 1, 0, 0, 3, TurningVerse.NONE);
        Sentences.due("the lowest 64 bits", x.digest(), big.longValue());
        Sentences.due("of more than that", big.bitLength() > 64 ? 1 : 0, 1);
        Sentences.of(38, "for each register turn() for 0 to 6");
        sees("the first register", y -> y.make(0, 2, 0));
        sees("the last register", y -> y.make(5, 2, 0));
        Sentences.of(38, "for each stanza first all its words, then 1 or 0 for each of its places, as it is locked or not,"
                + " then turning() and scheme()");
        sees("the first word", y -> y.put(0, 0, 1));
        sees("the last word of the last stanza", y -> y.put(1, 2, 1));
        sees("the first place", y -> y.lock(0, 0, true));
        sees("the last place of the last stanza", y -> y.lock(1, 2, true));
        order();
        Sentences.of(38, "tail() for 0 to 3, and the words of the tail, line by line");
        tailOrder();
    }

    /** The same without an end to its bits. */
    private static BigInteger unbounded(BigInteger h, long... values) {
        BigInteger sum = h;
        for (long v : values) {
            sum = sum.multiply(BigInteger.valueOf(31)).add(BigInteger.valueOf(v));
        }
        return sum;
    }

    /** The digest with a call is another one than with a call that records a state, but changes nothing. */
    private static void sees(String what, Consumer<TurningVerse> call) {
        TurningVerse x = new TurningVerse();
        Check.loadPoem(x, "abc/cba;a");
        x.lock(0, 1, false);
        TurningVerse y = new TurningVerse();
        Check.loadPoem(y, "abc/cba;a");
        call.accept(y);
        Sentences.due(what, x.digest() == y.digest() ? 1 : 0, 0);
    }

    private static long start(int stanzas, int proper, int locked, int bytes, int states) {
        long h = with(12674, 2, stanzas, proper, locked, bytes, states, 0, 1);
        for (int r = 0; r < 6; r++) {
            h = with(h, 0, 1, 2, 2, 1, 0, 2);
        }
        return h;
    }

    private static void order() {
        TurningVerse x = new TurningVerse();
        Check.loadPoem(x, "ba/ab");
        x.lock(0, 1, true);
        long h = with(start(2, 2, 1, 5, 2), 1, 0, 0, 1, 1, 1, 0, 1, 0, 0, TurningVerse.NONE, 1);
        Sentences.due("two stanzas", x.digest(), with(h, 0, 0, 0, 0, 0, 0, 0, 0, 3, TurningVerse.NONE));
    }

    private static void tailOrder() {
        TurningVerse x = new TurningVerse();
        Check.loadPoem(x, "ba;bba,a,bb,ab");
        long h = with(start(1, 1, 0, 14, 1), 1, 0, 0, 0, TurningVerse.NONE, 1, 1, 1, 1, 1, 1, 1);
        Sentences.due("four lines", x.digest(), with(h, 4, 8, 0, 0, 1, 1, 0, 0, 1, 1, 0, 1));
    }
}
