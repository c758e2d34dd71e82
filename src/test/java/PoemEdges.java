/** The edges that promises 19 to 32 name. */
final class PoemEdges {
    private static final int BAD = TurningVerse.BAD, STATE = TurningVerse.STATE;
    private static final int FULL = TurningVerse.FULL, NONE = TurningVerse.NONE;

    private PoemEdges() {
    }

    static void run() {
        promise19();
        promise20();
        promise21();
        promise22();
        promise23();
        promise24();
        promise25();
        promise26();
        promise27();
        promise28();
        promise29();
        promise30();
        promise31();
        promise32();
    }

    private static void promise19() {
        Sentences.of(19, "or, if there is none, the words in ascending order");
        TurningVerse x = new TurningVerse();
        x.setWords(7);
        x.make(0, 3, 1);
        x.make(5, 2, 0);
        x.add(5);
        Sentences.due("seven words", Check.words(x, 0), 123456);
        x.drop();
        x.add(5);
        Sentences.due("none any more", Check.words(x, 0), 123456);
        Sentences.of(19, "None of its places is locked");
        for (int i = 0; i < 7; i++) {
            x.lock(0, i, true);
        }
        x.add(1);
        Sentences.due("behind a locked one", x.told(3), 7);
        x.lock(1, 6, true);
        x.drop();
        x.add(1);
        Sentences.due("in place of a locked one", x.told(3), 7);
        Sentences.due("the last place", x.lock(1, 6, true), 0);
        Sentences.of(19, "`r`: the register of the permutation, 0 to 5");
        Sentences.due("the first", x.add(0), 3);
        Sentences.due("turned by it", Check.words(x, 2), 1234560);
        Sentences.due("the last", x.add(5), 4);
        Sentences.due("turned by that", Check.words(x, 3), 654321);
        Sentences.of(19, "BAD if there is no such register");
        Sentences.outside("r", x, 0, 5, r -> x.add(r));
        x.setWords(2);
        Sentences.outside("r without a stanza", x, 0, 5, r -> x.add(r));
        Sentences.of(19, "FULL if there are 8 stanzas");
        for (int s = 0; s < 7; s++) {
            x.add(0);
        }
        Sentences.due("with 7", x.add(0), 8);
        Sentences.refused("with 8", x, () -> x.add(0), FULL);
        x.drop();
        Sentences.due("with 7 again", x.add(0), 8);
        Check.loadPoem(x, "ab/ab/ab/ab/ab/ab/ab/ab");
        Sentences.refused("with 8 that were read", x, () -> x.add(0), FULL);
    }

    private static void promise20() {
        Sentences.of(20, "Removes the last stanza");
        TurningVerse x = new TurningVerse();
        Check.loadPoem(x, "ab/ba/ab/ba/ab/ba/ab/bb;a");
        Sentences.due("of 8", x.drop(), 7);
        Sentences.refused("the eighth", x, () -> x.word(7, 0), BAD);
        Sentences.due("the seventh", Check.words(x, 6), 1);
        x.lock(6, 1, true);
        x.drop();
        Sentences.due("its lock goes with it", x.told(3), 0);
        Sentences.of(20, "STATE if there is none");
        for (int left = 5; left >= 0; left--) {
            Sentences.due("there is one", x.drop(), left);
        }
        Sentences.refused("none, but a tail", x, () -> x.drop(), STATE);
        Sentences.due("the tail stays", x.tail(0), 1);
        TurningVerse y = new TurningVerse();
        Sentences.refused("none at first", y, () -> y.drop(), STATE);
    }

    private static void promise21() {
        TurningVerse x = new TurningVerse();
        Check.loadPoem(x, "abcdefg/gfedcba");
        Sentences.of(21, "Puts a word at a place of a stanza, locked or not");
        x.lock(1, 6, true);
        Sentences.due("locked", x.put(1, 6, 6), 0);
        Sentences.due("it is there", x.word(1, 6), 6);
        Sentences.due("it is still locked", x.lock(1, 6, true), 1);
        Sentences.due("not locked", x.put(1, 5, 0), 1);
        Sentences.due("it is not locked then", x.lock(1, 5, false), 0);
        Sentences.of(21, "`i`: the line, 0 to n - 1");
        Sentences.due("the first", x.put(0, 0, 3), 0);
        Sentences.due("the last", x.put(0, 6, 3), 6);
        Sentences.due("all", Check.words(x, 0), 3123453);
        Sentences.of(21, "`w`: the word, 0 to n - 1");
        Sentences.due("the first", x.put(0, 1, 0), 1);
        Sentences.due("the last", x.put(0, 1, 6), 0);
        Sentences.due("it is there", x.word(0, 1), 6);
        Sentences.of(21, "BAD if there is no such stanza, line or word");
        Sentences.outside("s", x, 0, 1, s -> x.put(s, 0, 0));
        Sentences.outside("i", x, 0, 6, i -> x.put(0, i, 0));
        Sentences.outside("w", x, 0, 6, w -> x.put(0, 0, w));
        TurningVerse y = new TurningVerse();
        Check.loadPoem(y, "ab");
        Sentences.outside("i of 2", y, 0, 1, i -> y.put(0, i, 0));
        Sentences.outside("w of 2", y, 0, 1, w -> y.put(0, 0, w));
        y.drop();
        Sentences.refused("no stanza at all", y, () -> y.put(0, 0, 0), BAD);
    }

    private static void promise22() {
        TurningVerse x = new TurningVerse();
        Check.loadPoem(x, "abcdefg/gfedcba");
        Sentences.of(22, "`i`: the line, 0 to n - 1");
        Sentences.due("the first", x.lock(0, 0, true), 0);
        Sentences.due("the last", x.lock(0, 6, true), 0);
        Sentences.due("the last of the last stanza", x.lock(1, 6, true), 0);
        Sentences.due("three", x.told(3), 3);
        Sentences.of(22, "Returns 1 if it was locked before, otherwise 0");
        Sentences.due("locked again", x.lock(0, 6, true), 1);
        Sentences.due("unlocked", x.lock(0, 6, false), 1);
        Sentences.due("unlocked again", x.lock(0, 6, false), 0);
        Sentences.due("locked once more", x.lock(0, 6, true), 0);
        Sentences.due("the others are as they were", x.told(3), 3);
        Sentences.of(22, "BAD if there is no such stanza or line");
        Sentences.outside("s", x, 0, 1, s -> x.lock(s, 0, true));
        Sentences.outside("s, unlocked", x, 0, 1, s -> x.lock(s, 0, false));
        Sentences.outside("i", x, 0, 6, i -> x.lock(0, i, true));
        TurningVerse y = new TurningVerse();
        Sentences.refused("no stanza at all", y, () -> y.lock(0, 0, true), BAD);
        Check.loadPoem(y, "ab");
        Sentences.outside("i of 2", y, 0, 1, i -> y.lock(0, i, true));
    }

    private static void promise23() {
        TurningVerse x = new TurningVerse();
        Check.loadPoem(x, "bacdefg/gfedcab");
        Sentences.of(23, "`i`: the line, 0 to n - 1");
        Sentences.due("the first", x.word(0, 0), 1);
        Sentences.due("the last", x.word(0, 6), 6);
        Sentences.due("the last of the last stanza", x.word(1, 6), 1);
        Sentences.of(23, "BAD if there is no such stanza or line");
        Sentences.outside("s", x, 0, 1, s -> x.word(s, 0));
        Sentences.outside("i", x, 0, 6, i -> x.word(0, i));
        TurningVerse y = new TurningVerse();
        Sentences.refused("no stanza at all", y, () -> y.word(0, 0), BAD);
        Check.loadPoem(y, "ab");
        Sentences.outside("i of 2", y, 0, 1, i -> y.word(0, i));
    }

    private static void promise24() {
        TurningVerse x = new TurningVerse();
        Check.loadPoem(x, "gfedcba/abcdeff/bacdefg/aaaaaaa");
        Sentences.of(24, "Returns 1 if it is, otherwise 0");
        Sentences.due("the first", x.proper(0), 1);
        Sentences.due("one word twice", x.proper(1), 0);
        Sentences.due("another one", x.proper(2), 1);
        Sentences.due("the last", x.proper(3), 0);
        Sentences.of(24, "BAD if there is no such stanza");
        Sentences.outside("s", x, 0, 3, s -> x.proper(s));
        TurningVerse y = new TurningVerse();
        Sentences.refused("no stanza at all", y, () -> y.proper(0), BAD);
    }

    private static void promise25() {
        TurningVerse x = new TurningVerse();
        Check.loadPoem(x, "abc/cba/bbc/abc/abc");
        Sentences.of(25, "NONE if there is no next stanza, or one of both is not proper");
        Sentences.due("both are", x.turning(0), 5);
        Sentences.due("the next one is not", x.turning(1), NONE);
        Sentences.due("it is not", x.turning(2), NONE);
        Sentences.due("both are again", x.turning(3), 0);
        Sentences.due("no next one", x.turning(4), NONE);
        x.put(1, 0, 0);
        Sentences.due("both are not", x.turning(1), NONE);
        // The stanza that is dropped is no next one, though it was there.
        x.drop();
        Sentences.due("no next one any more", x.turning(3), NONE);
        Sentences.of(25, "BAD if there is no such stanza");
        Sentences.outside("s", x, 0, 3, s -> x.turning(s));
        TurningVerse y = new TurningVerse();
        Sentences.refused("no stanza at all", y, () -> y.turning(0), BAD);
        Check.loadPoem(y, "ab/ab/ab/ab/ab/ab/ab/ba");
        Sentences.due("the seventh", y.turning(6), 1);
        Sentences.due("the eighth", y.turning(7), NONE);
    }

    private static void commonNone(String text) {
        TurningVerse x = new TurningVerse();
        Check.loadPoem(x, text);
        x.make(5, 2, 0);
        Sentences.due(text, x.common(5), NONE);
        Sentences.due(text + ", not written", x.turn(5, 5) * 10 + x.turn(5, 1), 12);
        Sentences.due(text + ", a change", x.told(5), 3);
    }

    private static void promise26() {
        Sentences.of(26, "if there is just one");
        TurningVerse x = new TurningVerse();
        Check.loadPoem(x, "ab/ba/ab/ba/ab/ba/ab/ba");
        Sentences.due("eight stanzas", x.common(0), 1);
        Check.loadPoem(x, "gfedcba/gfedcba");
        Sentences.due("two stanzas", x.common(0), 0);
        Sentences.of(26, "`to`: the register, 0 to 5");
        Check.loadPoem(x, "abc/cba");
        Sentences.due("into the first", x.common(0), 5);
        Sentences.due("into the last", x.common(5), 5);
        Sentences.due("the first", x.turn(0, 0), 5);
        Sentences.due("the last", x.turn(5, 0), 5);
        Sentences.of(26, "NONE if the poem follows none, or has fewer than two stanzas (then nothing is written)");
        commonNone("abc/bca/bca");
        commonNone("abc/abc/bca");
        commonNone("abc/bbc");
        commonNone("aab/aab");
        commonNone("abc/cba/abc/cba/abc/cba/abc/cbc");
        commonNone("abc");
        commonNone("aaa");
        x.drop();
        x.drop();
        Sentences.due("no stanza", x.common(5), NONE);
        Sentences.due("no stanza, not written", x.turn(5, 0), 5);
        Sentences.of(26, "BAD if there is no such register");
        Sentences.outside("to without a stanza", x, 0, 5, r -> x.common(r));
        Check.loadPoem(x, "abc/cba");
        Sentences.outside("to", x, 0, 5, r -> x.common(r));
    }

    private static void promise27() {
        TurningVerse x = new TurningVerse();
        x.setWords(3);
        x.make(0, 3, 1);
        x.make(5, 3, 2);
        Sentences.of(27, "`r`: the register of the permutation, 0 to 5");
        Check.loadPoem(x, "cab/abc");
        Sentences.due("the first", x.follows(0), 1);
        Sentences.due("the last", x.follows(5), 0);
        Sentences.of(27, "Returns 1 if it does, otherwise 0 (1 if there is no stanza");
        x.drop();
        x.drop();
        Sentences.due("no stanza", x.follows(5), 1);
        Sentences.due("no stanza, the identity", x.follows(1), 1);
        Sentences.of(27, "with a single one, 1 if it is proper)");
        Check.loadPoem(x, "cab");
        Sentences.due("it is", x.follows(5), 1);
        Check.loadPoem(x, "cac");
        Sentences.due("it is not", x.follows(5), 0);
        Sentences.of(27, "BAD if there is no such register");
        Sentences.outside("r", x, 0, 5, r -> x.follows(r));
        x.drop();
        Sentences.outside("r without a stanza", x, 0, 5, r -> x.follows(r));
    }

    /** A poem with which each call that looks for the smallest cost is as it should be. */
    private static TurningVerse spoiled() {
        TurningVerse x = new TurningVerse();
        Check.loadPoem(x, "abc/bca/cac;a,bc");
        x.make(0, 3, 1);
        x.make(5, 3, 2);
        return x;
    }

    /** No permutation has a cost for it. */
    private static TurningVerse hopeless() {
        TurningVerse x = spoiled();
        x.lock(2, 0, true);
        x.lock(2, 2, true);
        return x;
    }

    private static void promise28() {
        TurningVerse x = spoiled();
        Sentences.of(28, "`r`: the register of the permutation, 0 to 5");
        Sentences.due("the first", x.cost(0), 1);
        // Line 0 of the first stanza comes to a, c, c: two of them can stay, and one place each of the other lines.
        Sentences.due("the last", x.cost(5), 5);
        Sentences.of(28, "NONE if there is none");
        TurningVerse y = hopeless();
        Sentences.due("two places of a stanza", y.cost(0), NONE);
        y.lock(2, 2, false);
        Sentences.due("one of them", y.cost(0), 1);
        y.lock(0, 2, true);
        Sentences.due("two stanzas, c on the same line of the first, by the shift", y.cost(0), 1);
        Sentences.due("c on two lines, by the other shift", y.cost(5), NONE);
        TurningVerse all = new TurningVerse();
        Check.loadPoem(all, "aa");
        Sentences.due("no lock", all.cost(0), 1);
        all.lock(0, 0, true);
        Sentences.due("one lock", all.cost(0), 1);
        all.lock(0, 1, true);
        Sentences.due("all locked", all.cost(0), NONE);
        Sentences.of(28, "BAD if there is no such register");
        Sentences.outside("r", x, 0, 5, r -> x.cost(r));
        Sentences.of(28, "STATE if there is no stanza");
        TurningVerse z = new TurningVerse();
        Sentences.refused("at first", z, () -> z.cost(0), STATE);
        Check.loadPoem(z, "ab;a");
        Sentences.due("one stanza", z.cost(0), 0);
        z.drop();
        Sentences.refused("the tail alone", z, () -> z.cost(0), STATE);
    }

    private static void promise29() {
        Sentences.of(29, "`r`: the register of the permutation, 0 to 5");
        TurningVerse x = spoiled();
        Sentences.due("the first", x.mend(0), 1);
        Sentences.due("the last stanza", Check.words(x, 2), 201);
        Sentences.due("the last", x.mend(5), 6);
        Sentences.due("it follows that then", x.follows(5), 1);
        Sentences.of(29, "Locks and the tail stay");
        x.lock(2, 1, true);
        x.lock(0, 0, true);
        x.put(1, 1, x.word(1, 0));
        Sentences.due("one place", x.mend(5), 1);
        Sentences.due("two locks", x.told(3), 2);
        Sentences.due("the one", x.lock(2, 1, true), 1);
        Sentences.due("the other", x.lock(0, 0, true), 1);
        Sentences.due("lines of the tail", x.tail(0), 2);
        Sentences.due("its last word", x.tailWord(1, 1), 2);
        Sentences.of(29, "NONE if there is none (then the poem stays)");
        TurningVerse y = hopeless();
        Sentences.due("two places of a stanza", y.mend(0), NONE);
        Sentences.due("the first stanza", Check.words(y, 0), 12);
        Sentences.due("the last stanza", Check.words(y, 2), 202);
        Sentences.due("but it is a change", y.told(5), 6);
        Sentences.of(29, "BAD if there is no such register");
        Sentences.outside("r", x, 0, 5, r -> x.mend(r));
        Sentences.of(29, "STATE if there is no stanza");
        TurningVerse z = new TurningVerse();
        Sentences.refused("at first", z, () -> z.mend(0), STATE);
        Check.loadPoem(z, "bb;a");
        Sentences.due("one stanza", z.mend(0), 1);
        z.drop();
        Sentences.refused("the tail alone", z, () -> z.mend(0), STATE);
    }

    private static void promise30() {
        Sentences.of(30, "of several the first one by its number");
        TurningVerse one = new TurningVerse();
        Check.loadPoem(one, "gfedcba");
        one.make(0, 2, 0);
        Sentences.due("one stanza: all of them", one.best(0), 0);
        Sentences.due("the identity", one.turn(0, 0), 0);
        TurningVerse two = new TurningVerse();
        // Both acb and bca differ from aca in one place: these are 021 and 120.
        Check.loadPoem(two, "abc/aca");
        Sentences.due("two of the same cost", two.best(0), 1);
        Sentences.due("021, not 120", two.turn(0, 0), 1);
        Sentences.of(30, "`to`: the register, 0 to 5");
        TurningVerse x = spoiled();
        Sentences.due("into the first", x.best(0), 1);
        Sentences.due("into the last", x.best(5), 1);
        Sentences.due("the first", x.turn(0, 0), 3);
        Sentences.due("the last", x.turn(5, 0), 3);
        Sentences.due("the poem stays", Check.words(x, 2), 202);
        Sentences.of(30, "NONE if no permutation has a cost (then nothing is written)");
        TurningVerse y = hopeless();
        Sentences.due("two places of a stanza", y.best(5), NONE);
        Sentences.due("the register", y.turn(5, 0), 4);
        Sentences.due("but it is a change", y.told(5), 6);
        Sentences.of(30, "BAD if there is no such register");
        Sentences.outside("to", x, 0, 5, r -> x.best(r));
        Sentences.of(30, "STATE if there is no stanza");
        TurningVerse z = new TurningVerse();
        Sentences.refused("at first", z, () -> z.best(0), STATE);
        Check.loadPoem(z, "bb;a");
        Sentences.due("one stanza", z.best(0), 1);
        z.drop();
        Sentences.refused("the tail alone", z, () -> z.best(0), STATE);
    }

    private static void tails(String text, int lines, int words, int missing, int few) {
        TurningVerse x = new TurningVerse();
        Check.loadPoem(x, text);
        int[] due = {lines, words, missing, few};
        for (int what = 0; what <= 3; what++) {
            Sentences.due(text + ", what " + what, x.tail(what), due[what]);
        }
    }

    private static void promise31() {
        Sentences.of(31, "`what`: 0 for its lines, 1 for its words, 2 for the set of the words that are not in it, as a bit"
                + " mask, 3 for the fewest words of it that would have to be replaced so that each word is in it"
                + " (as many as words are missing)");
        tails("ab;ab", 1, 2, 0, 0);
        tails("ab;bb", 1, 2, 1, 1);
        tails("ab;aba,bab,aba,bab", 4, 12, 0, 0);
        tails("abcdefg;aaa,aaa,aaa,aaa", 4, 12, 126, 6);
        tails("abcdefg;abc,def,g", 3, 7, 0, 0);
        tails("abcdefg;a,a,aba,gg", 4, 7, 60, 4);
        Sentences.of(31, "NONE for 3 if it has fewer than n words");
        tails("ab", 0, 0, 3, NONE);
        tails("ab;b", 1, 1, 1, NONE);
        tails("ab;b,b", 2, 2, 1, 1);
        tails("abcdefg;abc,def", 2, 6, 64, NONE);
        tails("abcdefg;abc,def,a", 3, 7, 64, 1);
        TurningVerse x = new TurningVerse();
        Sentences.due("no tail at first", x.tail(3), NONE);
        Sentences.due("all words are missing", x.tail(2), 63);
        Sentences.of(31, "BAD if what is not 0 to 3");
        Sentences.outside("what", x, 0, 3, what -> x.tail(what));
    }

    private static void promise32() {
        TurningVerse x = new TurningVerse();
        Check.loadPoem(x, "abcdefg;gfe,d,cb,abc");
        Sentences.of(32, "`line`: the line, from 0");
        Sentences.due("the first", x.tailWord(0, 0), 6);
        Sentences.due("the last", x.tailWord(3, 0), 0);
        Sentences.of(32, "`k`: the number of the word in the line, from 0");
        Sentences.due("the last of three", x.tailWord(0, 2), 4);
        Sentences.due("the last of two", x.tailWord(2, 1), 1);
        Sentences.due("the last of the last line", x.tailWord(3, 2), 2);
        Sentences.of(32, "NONE if the line has not so many words");
        Sentences.due("the second of one", x.tailWord(1, 1), NONE);
        Sentences.due("the third of two", x.tailWord(2, 2), NONE);
        Sentences.due("the fourth of three", x.tailWord(3, 3), NONE);
        Sentences.due("very far behind", x.tailWord(3, Integer.MAX_VALUE), NONE);
        Sentences.of(32, "BAD if there is no such line, or k is negative");
        Sentences.outside("line", x, 0, 3, line -> x.tailWord(line, 0));
        Sentences.refused("k -1", x, () -> x.tailWord(0, -1), BAD);
        Sentences.refused("k the least", x, () -> x.tailWord(0, Integer.MIN_VALUE), BAD);
        Check.loadPoem(x, "abcdefg;g");
        Sentences.outside("line of one", x, 0, 0, line -> x.tailWord(line, 0));
        TurningVerse y = new TurningVerse();
        Sentences.refused("no tail", y, () -> y.tailWord(0, 0), BAD);
    }
}
