/** The edges that the terms name, but for those of texts. */
final class TermEdges {
    private static final int BAD = TurningVerse.BAD, STATE = TurningVerse.STATE;
    private static final int FULL = TurningVerse.FULL, NONE = TurningVerse.NONE;

    private TermEdges() {
    }

    static void run() {
        lastCall();
        errorCodes();
        orderOfErrorCodes();
        refusedCalls();
        noneIsNoError();
        lines();
        products();
        powers();
        orders();
        numbers();
        registers();
        words();
        sounds();
        properStanzas();
        sizesOfPoems();
        locks();
        following();
        costs();
        schemes();
        changes();
        changesThatChangeNothing();
        changesThatReturnNone();
        rememberedStates();
    }

    private static void lastCall() {
        Sentences.of(Sentences.TERMS, "An object is used for at most 512 calls after it has been made");
        TurningVerse x = new TurningVerse();
        TurningVerse y = new TurningVerse();
        for (int call = 1; call <= 511; call++) {
            x.unrank(call % 6, call);
            // The others have been written over, and are not remembered.
            if (call > 490) {
                y.unrank(call % 6, call);
            }
        }
        Sentences.due("the last one is as right as ever", x.digest(), y.digest());
    }

    private static void errorCodes() {
        TurningVerse x = new TurningVerse();
        Sentences.of(Sentences.TERMS, "BAD (-1): an argument is out of range, or there is no such thing");
        Sentences.due("out of range", x.told(6), -1);
        Sentences.due("no such thing", x.word(0, 0), -1);
        Sentences.of(Sentences.TERMS, "STATE (-2): the call is not possible at present, as the method says");
        Sentences.due("nothing to drop", x.drop(), -2);
        Sentences.due("nothing to undo", x.undo(), -2);
        Sentences.of(Sentences.TERMS, "FULL (-3): a limit is reached");
        for (int k = 0; k < 80; k++) {
            x.type('a');
        }
        Sentences.due("a full text", x.type('a'), -3);
    }

    private static void orderOfErrorCodes() {
        Sentences.of(Sentences.TERMS, "If several of them apply to a call, the first one in this order is returned");
        TurningVerse x = new TurningVerse();
        Sentences.refused("cost, BAD and STATE", x, () -> x.cost(6), BAD);
        Sentences.refused("mend, BAD and STATE", x, () -> x.mend(6), BAD);
        Sentences.refused("best, BAD and STATE", x, () -> x.best(6), BAD);
        for (int k = 0; k < 80; k++) {
            x.type('!');
        }
        Sentences.refused("type, BAD and FULL", x, () -> x.type(32), BAD);
        Sentences.refused("loadTurn, BAD and a fault", x, () -> x.loadTurn(6), BAD);
        for (int s = 0; s < 8; s++) {
            x.add(0);
        }
        Sentences.refused("add, BAD and FULL", x, () -> x.add(6), BAD);
    }

    private static void refusedCalls() {
        Sentences.of(Sentences.TERMS, "A call that returns an error code, or -10 or less, changes nothing");
        TurningVerse x = new TurningVerse();
        x.make(0, 2, 0);
        x.setSound(5, 3);
        Check.write(x, "(1");
        Sentences.refused("setWords", x, () -> x.setWords(8), BAD);
        Sentences.refused("loadTurn", x, () -> x.loadTurn(0), -12);
        Sentences.refused("loadPoem", x, () -> x.loadPoem(), -10);
        Sentences.refused("drop", x, () -> x.drop(), STATE);
        Sentences.refused("put", x, () -> x.put(0, 0, 0), BAD);
        Sentences.due("the sound is the latest change", x.undo(), 1);
        Sentences.due("the sound is gone", x.setSound(5, 1), 1);
        x.undo();
        Sentences.due("the register is the one before it", x.undo(), 0);
        Sentences.due("the register is gone", x.turn(0, 0), 0);
    }

    private static void noneIsNoError() {
        Sentences.of(Sentences.TERMS, "NONE (-9) is not an error code: it means that there is no such value,"
                + " and is returned only if no error code applies");
        TurningVerse x = new TurningVerse();
        x.make(1, 2, 0);
        Sentences.due("NONE", x.reach(0, 1), -9);
        Sentences.refused("no such product, and i is negative", x, () -> x.factor(0, 1, -1), BAD);
        Sentences.refused("no root, and no such register", x, () -> x.root(1, 2, 6), BAD);
        Sentences.refused("nothing followed, and no such register", x, () -> x.common(6), BAD);
        Sentences.refused("no next stanza, nor this one", x, () -> x.turning(0), BAD);
        Sentences.refused("no tail, and no such number of it", x, () -> x.tail(4), BAD);
        Sentences.refused("no such word, nor line", x, () -> x.tailWord(0, 3), BAD);
        Check.loadPoem(x, "ab;a");
        Sentences.refused("no such word, and k is negative", x, () -> x.tailWord(0, -1), BAD);
        x.lock(0, 0, true);
        x.lock(0, 1, true);
        x.put(0, 0, 1);
        Sentences.refused("no cost, and no such register", x, () -> x.cost(-1), BAD);
        Sentences.refused("no cost to mend, and no such register", x, () -> x.mend(-1), BAD);
        Sentences.refused("no best cost, and no such register", x, () -> x.best(-1), BAD);
        x.drop();
        Sentences.refused("no cost, nor a stanza", x, () -> x.cost(0), STATE);
    }

    private static void lines() {
        Sentences.of(Sentences.TERMS, "There are n lines, 0 to n - 1, where n is 2 to 7 (6 at first)");
        Sentences.due("at first", new TurningVerse().told(0), 6);
        for (int n = 2; n <= 7; n++) {
            TurningVerse x = new TurningVerse();
            x.setWords(n);
            int last = n - 1;
            int behind = n;
            Sentences.due("the last line of " + n, x.at(0, last), last);
            Sentences.refused("the line behind it", x, () -> x.at(0, behind), BAD);
        }
    }

    private static void products() {
        Sentences.of(Sentences.TERMS, "turns first by p, then by q (so it gives i the line p(q(i)))");
        TurningVerse x = new TurningVerse();
        Check.loadTurn(x, 0, "(16)");
        Check.loadTurn(x, 1, "(12)");
        x.product(0, 1, 2);
        // p = 512340, q = 102345: p(q(0)) is p(1), p(q(1)) is p(0), p(q(5)) is p(5).
        Sentences.due("lines", Check.lines(x, 2), 152340);
        x.add(0);
        x.add(0);
        x.add(1);
        long both = Check.words(x, 2);
        x.drop();
        x.drop();
        x.add(2);
        Sentences.due("stanza turned by both", both, Check.words(x, 1));
    }

    private static void powers() {
        Sentences.of(Sentences.TERMS, "(0 times: the identity, which gives each line itself)");
        for (int n = 2; n <= 7; n++) {
            TurningVerse x = new TurningVerse();
            x.setWords(n);
            x.make(1, 1, 0);
            Sentences.due("number, of " + n, x.power(1, 0, 0), 0);
            Sentences.due("lines given themselves, of " + n, x.turn(0, 3), n);
        }
    }

    private static void orders() {
        Sentences.of(Sentences.TERMS, "The order of p is the smallest k above 0 whose power of p is the identity");
        TurningVerse x = new TurningVerse();
        Sentences.due("the identity, whose power 0 is it too", x.turn(0, 1), 1);
        Check.loadTurn(x, 0, "(16)");
        Sentences.due("an exchange, whose power 4 is it too", x.turn(0, 1), 2);
        x.setWords(7);
        Check.loadTurn(x, 0, "(1625)(374)");
        Sentences.due("the greatest there is", x.turn(0, 1), 12);
        Sentences.due("its power 11", x.power(0, 11, 1), x.power(0, -1, 2));
        Sentences.due("its power 12", x.power(0, 12, 1), 0);
        Check.loadTurn(x, 0, "(1725)(34)");
        Sentences.due("not the product of 4 and 2", x.turn(0, 1), 4);
    }

    private static void numbers() {
        Sentences.of(Sentences.TERMS, "Permutations are numbered from 0 in lexicographic order of p(0), p(1) and so on");
        int count = 1;
        for (int n = 2; n <= 7; n++) {
            count *= n;
            TurningVerse x = new TurningVerse();
            x.setWords(n);
            Sentences.due("the first of " + n, x.turn(0, 0), 0);
            Sentences.due("the last of " + n, x.make(0, 2, 0), count - 1);
            x.unrank(1, 1);
            // The second one exchanges the last two lines.
            Sentences.due("line of the second of " + n, x.at(1, n - 2), n - 1);
            Sentences.due("last line of the second of " + n, x.at(1, n - 1), n - 2);
            Sentences.due("exchange of the first two of " + n, x.make(1, 4, 1), count / n);
        }
    }

    private static void registers() {
        Sentences.of(Sentences.TERMS, "There are 6 registers, 0 to 5, each of which holds a permutation, the identity at first");
        TurningVerse x = new TurningVerse();
        for (int r = 0; r <= 5; r++) {
            Sentences.due("at first: " + r, Check.lines(x, r), 12345);
        }
        for (int r = 0; r <= 5; r++) {
            x.unrank(r, 100 + r);
        }
        for (int r = 0; r <= 5; r++) {
            Sentences.due("its own: " + r, x.turn(r, 0), 100 + r);
        }
    }

    private static void words() {
        Sentences.of(Sentences.TERMS, "There are the words 0 to n - 1, written as the letters a to g");
        TurningVerse x = new TurningVerse();
        Check.loadPoem(x, "gfedcba");
        Sentences.due("g to a", Check.words(x, 0), 6543210);
        Sentences.due("the letter behind g", Check.loadPoem(x, "hfedcba"), -10);
        Sentences.due("the sign ahead of a", Check.loadPoem(x, "gfedcb`"), -16);
        Sentences.due("another A", Check.loadPoem(x, "gfedcbA"), -16);
    }

    private static void sounds() {
        Sentences.of(Sentences.TERMS, "Each word has a sound, 0 to 3 (at first the sound of word w is w modulo 4)");
        int[] due = {0, 1, 2, 3, 0, 1, 2};
        TurningVerse x = new TurningVerse();
        x.setWords(7);
        for (int w = 0; w < 7; w++) {
            Sentences.due("word " + w, x.setSound(w, 3), due[w]);
        }
    }

    private static void properStanzas() {
        Sentences.of(Sentences.TERMS, "it is proper if each word is in it once");
        TurningVerse x = new TurningVerse();
        Check.loadPoem(x, "ba/aa/bb/ab");
        int[] due = {1, 0, 0, 1};
        for (int s = 0; s < 4; s++) {
            Sentences.due("stanza " + s, x.proper(s), due[s]);
        }
    }

    private static void sizesOfPoems() {
        String words = "A poem has 0 to 8 stanzas, numbered from 0 (none at first), and a tail of 0 to 4 lines"
                + " (none at first), each with 1 to 3 words";
        Sentences.of(Sentences.TERMS, words);
        TurningVerse x = new TurningVerse();
        Sentences.due("no stanza at first", x.told(1), 0);
        Sentences.due("no tail at first", x.tail(0), 0);
        Check.loadPoem(x, "ab/ab/ab/ab/ab/ab/ab/ba;a,ab,aba,b");
        Sentences.due("eight stanzas", x.told(1), 8);
        Sentences.due("the first one", Check.words(x, 0), 1);
        Sentences.due("the last one", Check.words(x, 7), 10);
        Sentences.refused("one behind it", x, () -> x.word(8, 0), BAD);
        Sentences.refused("one ahead of the first", x, () -> x.word(-1, 0), BAD);
        Sentences.due("four lines of the tail", x.tail(0), 4);
        Sentences.due("a line of one word", x.tailWord(0, 1), NONE);
        Sentences.due("a line of three", x.tailWord(2, 2), 0);
        Sentences.due("but not four", x.tailWord(2, 3), NONE);
    }

    private static void locks() {
        Sentences.of(Sentences.TERMS, "Each place of a stanza (a line of it) can be locked; it is not at first");
        TurningVerse x = new TurningVerse();
        Check.loadPoem(x, "abcdefg/abcdefg/abcdefg/abcdefg/abcdefg/abcdefg/abcdefg/abcdefg");
        for (int s = 0; s < 8; s++) {
            for (int i = 0; i < 7; i++) {
                Sentences.due("place " + s + " " + i, x.lock(s, i, true), 0);
            }
        }
        Sentences.due("all of them", x.told(3), 56);
        Sentences.due("and it can be as it is", x.cost(0), 0);
    }

    private static void following() {
        Sentences.of(Sentences.TERMS, "A poem follows a permutation p if all its stanzas are proper,"
                + " and each one but the first is the one before it turned by p");
        TurningVerse x = new TurningVerse();
        Check.loadPoem(x, "cab/abc/bca/cab/abc/bca/cab/abc");
        x.make(0, 3, 1);
        Sentences.due("eight stanzas", x.follows(0), 1);
        x.put(7, 0, 1);
        x.put(7, 1, 0);
        Sentences.due("the last stanza is another one", x.follows(0), 0);
        x.undo();
        x.undo();
        x.put(0, 0, 0);
        x.put(0, 1, 2);
        Sentences.due("the first stanza is another one", x.follows(0), 0);
        Check.loadPoem(x, "aaa/aaa");
        Sentences.due("turned by it, but not proper", x.follows(0), 0);
    }

    private static void costs() {
        TurningVerse x = new TurningVerse();
        Sentences.of(Sentences.TERMS, "from those of a poem with equally many stanzas that follows the permutation");
        Check.loadPoem(x, "ab/ba/ab/ba/ab/ba/ab/aa");
        x.make(1, 2, 0);
        Sentences.due("eight stanzas", x.mend(1), 1);
        Sentences.due("still eight", x.told(1), 8);
        Sentences.due("the last one", Check.words(x, 7), 10);
        Check.loadPoem(x, "bb");
        Sentences.due("one stanza", x.mend(1), 1);
        Sentences.due("still one", x.told(1), 1);
        Sentences.of(Sentences.TERMS, "does not differ from it in a locked place");
        Check.loadPoem(x, "aab");
        Sentences.due("no lock", x.mend(0), 1);
        Sentences.due("no lock, first stanza", Check.words(x, 0), 21);
        x.undo();
        x.lock(0, 1, true);
        Sentences.due("locked", x.mend(0), 1);
        Sentences.due("locked, first stanza", Check.words(x, 0), 201);
        Sentences.of(Sentences.TERMS, "there is none if there is no such poem");
        x.undo();
        x.lock(0, 0, true);
        Sentences.due("both are locked", x.cost(0), NONE);
        Sentences.due("for any permutation", x.best(0), NONE);
        Sentences.of(Sentences.TERMS, "of several the one whose first stanza is lexicographically first");
        Check.loadPoem(x, "dddd/dddd");
        x.mend(0);
        Sentences.due("all alike", Check.words(x, 0), 123);
        Check.loadPoem(x, "cdba/dcab");
        // Each line can have either of two words; they are lines 0 and 1, and lines 2 and 3.
        x.mend(0);
        Sentences.due("two pairs", Check.words(x, 0), 2301);
    }

    private static void schemes() {
        Sentences.of(Sentences.TERMS, "each line gets the number of the first line before it whose word has the same"
                + " sound, if there is one, and its own number otherwise");
        TurningVerse x = new TurningVerse();
        Check.loadPoem(x, "eabcdff");
        // Sounds 0 0 1 2 3 1 1: lines 0 0 2 3 4 2 2.
        Sentences.due("the first of two, not the nearest", x.scheme(0), (((2 * 7 + 3) * 7 + 4) * 7 + 2) * 7 + 2);
        Sentences.of(Sentences.TERMS, "digits to the base 7, the first line's as the most significant one");
        Check.loadPoem(x, "ab");
        Sentences.due("two lines", x.scheme(0), 1);
        Check.loadPoem(x, "abc");
        Sentences.due("three lines", x.scheme(0), 7 + 2);
        Check.loadPoem(x, "aabaaaa");
        Sentences.due("seven lines", x.scheme(0), 2 * 7 * 7 * 7 * 7);
    }

    private static void changes() {
        Sentences.of(Sentences.TERMS, "before it if they return no error code and no number of -10 or less");
        TurningVerse x = new TurningVerse();
        Check.write(x, "!");
        x.told(6);
        x.loadPoem();
        x.loadTurn(0);
        x.setWords(1);
        x.drop();
        x.cost(0);
        x.mend(0);
        x.best(0);
        Sentences.due("none of these is recorded", x.told(5), 0);
        for (int s = 0; s < 8; s++) {
            x.add(0);
        }
        Sentences.due("each of these is", x.told(5), 8);
        x.undo();
        x.undo();
        x.add(0);
        x.add(0);
        x.add(0);
        x.undo();
        Sentences.due("the ninth is not", x.told(1), 7);
        Sentences.due("those that change nothing are not either", readAll(x), 7);
        x.drop();
        Sentences.due("one that drops a stanza is", x.told(5), 8);
        x.undo();
        Sentences.due("and is undone", x.told(1), 7);
    }

    /** Calls everything that is no change, and returns how many states are remembered. */
    private static int readAll(TurningVerse x) {
        x.type('a');
        x.clear();
        x.at(0, 0);
        x.turn(0, 0);
        x.places(0, 0, 1);
        x.generated(1);
        x.reach(1, 0);
        x.factor(1, 0, 0);
        x.word(0, 0);
        x.proper(0);
        x.turning(0);
        x.follows(0);
        x.cost(0);
        x.tail(0);
        x.tailWord(0, 0);
        x.scheme(0);
        x.schemes(0, 0);
        x.coupled(0);
        x.told(0);
        x.digest();
        return x.told(5);
    }

    private static TurningVerse shifted() {
        TurningVerse x = new TurningVerse();
        x.setWords(3);
        x.make(0, 3, 1);
        return x;
    }

    private static void changesThatChangeNothing() {
        Sentences.of(Sentences.TERMS, "also if everything is as before");
        TurningVerse x = new TurningVerse();
        x.setWords(6);
        Sentences.due("setWords", x.told(5), 1);
        x.setSound(5, 1);
        Sentences.due("setSound", x.told(5), 2);
        x.loadTurn(5);
        Sentences.due("loadTurn", x.told(5), 3);
        x.make(0, 0, 0);
        Sentences.due("make", x.told(5), 4);
        x.product(0, 1, 2);
        Sentences.due("product", x.told(5), 5);
        x.power(0, 1, 0);
        Sentences.due("power", x.told(5), 6);
        x.unrank(0, 0);
        Sentences.due("unrank", x.told(5), 7);
        x.root(0, 1, 0);
        Sentences.due("root", x.told(5), 8);
        TurningVerse y = shifted();
        Check.loadPoem(y, "abc/bca");
        y.loadPoem();
        Sentences.due("loadPoem", y.told(5), 4);
        y.common(0);
        Sentences.due("common", y.told(5), 5);
        y.put(1, 2, 0);
        Sentences.due("put", y.told(5), 6);
        y.lock(1, 2, false);
        Sentences.due("lock", y.told(5), 7);
        y.mend(0);
        Sentences.due("mend", y.told(5), 8);
        y.undo();
        y.undo();
        y.best(0);
        Sentences.due("best", y.told(5), 7);
    }

    private static void changesThatReturnNone() {
        Sentences.of(Sentences.TERMS, "and also if they return NONE");
        TurningVerse x = new TurningVerse();
        x.setWords(2);
        x.make(0, 2, 0);
        Sentences.due("root", x.root(0, 2, 1), NONE);
        Sentences.due("root is recorded", x.told(5), 3);
        Sentences.due("common", x.common(1), NONE);
        Sentences.due("common is recorded", x.told(5), 4);
        Check.loadPoem(x, "aa");
        x.lock(0, 0, true);
        x.lock(0, 1, true);
        Sentences.due("mend", x.mend(0), NONE);
        Sentences.due("mend is recorded", x.told(5), 8);
        x.undo();
        Sentences.due("best", x.best(1), NONE);
        Sentences.due("best is recorded", x.told(5), 8);
        x.undo();
        Sentences.due("and undone, as the lock is then", x.undo(), 6);
        Sentences.due("one lock", x.told(3), 1);
    }

    private static void rememberedStates() {
        Sentences.of(Sentences.TERMS, "At most 8 recorded states are remembered: when one more is recorded,"
                + " the oldest one is dropped");
        TurningVerse x = new TurningVerse();
        for (int k = 1; k <= 8; k++) {
            x.unrank(0, k);
            Sentences.due("remembered at " + k, x.told(5), k);
        }
        x.unrank(0, 9);
        Sentences.due("one more", x.told(5), 8);
        for (int k = 8; k >= 1; k--) {
            Sentences.due("left at " + k, x.undo(), k - 1);
            Sentences.due("back at " + k, x.turn(0, 0), k);
        }
        Sentences.refused("the first of all is dropped", x, () -> x.undo(), STATE);
        Sentences.of(Sentences.TERMS, "undo() restores the latest one and removes it");
        x.unrank(0, 20);
        x.unrank(0, 21);
        x.undo();
        x.unrank(0, 22);
        Sentences.due("the latest one", x.undo(), 1);
        Sentences.due("is the one behind 20", x.turn(0, 0), 20);
        Sentences.due("and then", x.undo(), 0);
        Sentences.due("is the one ahead of it", x.turn(0, 0), 1);
    }
}
