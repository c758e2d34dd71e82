/** Promises 19 to 32: poems. */
public final class PoemsTest {
    private static final int BAD = TurningVerse.BAD, STATE = TurningVerse.STATE, NONE = TurningVerse.NONE;

    private PoemsTest() {
    }

    public static void main(String[] args) {
        promise19Add();
        promise20Drop();
        promise21Put();
        promise22Lock();
        promise23Word();
        promise24Proper();
        promise25Turning();
        promise26Common();
        promise27Follows();
        promise28Cost();
        promise29Mend();
        promise29MendWithLocks();
        promise30Best();
        promise31Tail();
        promise32TailWord();
        Check.end("PoemsTest");
    }

    private static TurningVerse poem(String text) {
        TurningVerse x = new TurningVerse();
        Check.loadPoem(x, text);
        return x;
    }

    private static void promise19Add() {
        TurningVerse x = new TurningVerse();
        x.make(1, 1, 0);
        Check.same("19: register 6", x.add(6), BAD);
        Check.same("19: register -1", x.add(-1), BAD);
        Check.same("19: no change", x.told(5), 1);
        Check.same("19: first", x.add(1), 1);
        Check.same("19: words in order", Check.words(x, 0), 12345);
        Check.same("19: second", x.add(1), 2);
        Check.same("19: turned", Check.words(x, 1), 504132);
        x.put(1, 0, 0);
        x.lock(1, 2, true);
        Check.same("19: third", x.add(1), 3);
        // Row 0 0 4 1 3 2, turned by 5 0 4 1 3 2.
        Check.same("19: turned, though it is not proper", Check.words(x, 2), 203014);
        Check.same("19: not locked", x.told(3), 1);
        x.lock(2, 0, true);
        x.drop();
        x.add(0);
        Check.same("19: not locked, as it is a new one", x.told(3), 1);
        Check.same("19: turned by the identity", Check.words(x, 2), 4132);
        for (int count = 4; count <= 8; count++) {
            Check.same("19: stanza " + count, x.add(0), count);
        }
        x.undo();
        x.undo();
        x.add(0);
        x.add(0);
        Check.same("19: eight remembered", x.told(5), 8);
        x.undo();
        x.add(0);
        x.undo();
        Check.same("19: eighth again", x.add(0), 8);
        int changes = x.told(5);
        x.undo();
        Check.same("19: before the eighth", x.told(5), changes - 1);
        x.add(0);
        long before = x.digest();
        Check.same("19: a ninth", x.add(0), TurningVerse.FULL);
        Check.same("19: BAD comes ahead of FULL", x.add(6), BAD);
        Check.same("19: nothing changed", x.digest(), before);
    }

    private static void promise20Drop() {
        TurningVerse x = new TurningVerse();
        Check.same("20: none", x.drop(), STATE);
        Check.same("20: no change", x.told(5), 0);
        Check.loadPoem(x, "ab/ba/ab;a");
        x.lock(2, 0, true);
        Check.same("20: last", x.drop(), 2);
        Check.same("20: its lock is gone", x.told(3), 0);
        Check.same("20: the tail stays", x.tail(0), 1);
        Check.same("20: the others stay", Check.words(x, 1), 10);
        Check.same("20: there is no such stanza", x.word(2, 0), BAD);
        Check.same("20: another", x.drop(), 1);
        Check.same("20: first", x.drop(), 0);
        Check.same("20: none again", x.drop(), STATE);
        Check.same("20: changes", x.told(5), 5);
        x.undo();
        x.undo();
        x.undo();
        Check.same("20: the lock is back", x.told(3), 1);
    }

    private static void promise21Put() {
        TurningVerse x = poem("abc/bca");
        x.lock(1, 2, true);
        Check.same("21: a locked place", x.put(1, 2, 2), 0);
        Check.same("21: it stays locked", x.told(3), 1);
        Check.same("21: words", Check.words(x, 1), 122);
        Check.same("21: other words", Check.words(x, 0), 12);
        Check.same("21: the same word", x.put(0, 0, 0), 0);
        Check.same("21: changes", x.told(5), 4);
        Check.same("21: stanza 2", x.put(2, 0, 0), BAD);
        Check.same("21: stanza -1", x.put(-1, 0, 0), BAD);
        Check.same("21: line 3", x.put(0, 3, 0), BAD);
        Check.same("21: line -1", x.put(0, -1, 0), BAD);
        Check.same("21: word 3", x.put(0, 0, 3), BAD);
        Check.same("21: word -1", x.put(0, 0, -1), BAD);
        Check.same("21: no changes", x.told(5), 4);
    }

    private static void promise22Lock() {
        TurningVerse x = poem("abc/bca");
        Check.same("22: locked", x.lock(0, 2, true), 0);
        Check.same("22: locked again", x.lock(0, 2, true), 1);
        Check.same("22: another one", x.lock(1, 0, true), 0);
        Check.same("22: two are", x.told(3), 2);
        Check.same("22: unlocked", x.lock(0, 2, false), 1);
        Check.same("22: unlocked again", x.lock(0, 2, false), 0);
        Check.same("22: one is", x.told(3), 1);
        Check.same("22: changes", x.told(5), 6);
        Check.same("22: stanza 2", x.lock(2, 0, true), BAD);
        Check.same("22: stanza -1", x.lock(-1, 0, true), BAD);
        Check.same("22: line 3", x.lock(0, 3, true), BAD);
        Check.same("22: line -1", x.lock(0, -1, false), BAD);
        Check.same("22: no changes", x.told(5), 6);
    }

    private static void promise23Word() {
        TurningVerse x = poem("abc/cba");
        Check.same("23: first", x.word(0, 0), 0);
        Check.same("23: last", x.word(1, 2), 0);
        Check.same("23: another", x.word(1, 0), 2);
        Check.same("23: stanza 2", x.word(2, 0), BAD);
        Check.same("23: stanza -1", x.word(-1, 0), BAD);
        Check.same("23: line 3", x.word(0, 3), BAD);
        Check.same("23: line -1", x.word(0, -1), BAD);
        Check.same("23: no change", x.told(5), 1);
    }

    private static void promise24Proper() {
        TurningVerse x = poem("abcdefg/abcdefa/gfedcba/ggggggg");
        Check.same("24: in order", x.proper(0), 1);
        Check.same("24: a twice", x.proper(1), 0);
        Check.same("24: reversed", x.proper(2), 1);
        Check.same("24: all the same", x.proper(3), 0);
        Check.same("24: stanza 4", x.proper(4), BAD);
        Check.same("24: stanza -1", x.proper(-1), BAD);
        Check.same("24: no change", x.told(5), 1);
    }

    private static void promise25Turning() {
        // bca turned by p is cba: line 0 comes from line 1, line 1 from 0, line 2 from 2.
        TurningVerse x = poem("bca/cba/cba/aba/abc");
        Check.same("25: exchange", x.turning(0), 2);
        Check.same("25: identity", x.turning(1), 0);
        Check.same("25: the next one is not proper", x.turning(2), NONE);
        Check.same("25: it is not proper itself", x.turning(3), NONE);
        Check.same("25: last", x.turning(4), NONE);
        Check.same("25: stanza 5", x.turning(5), BAD);
        Check.same("25: stanza -1", x.turning(-1), BAD);
        Check.same("25: no change", x.told(5), 1);
        x.setWords(7);
        Check.same("25: no stanza", x.turning(0), BAD);
        Check.same("25: shift", poem("cabd/abdc").turning(0), 9);
    }

    private static void promise26Common() {
        TurningVerse x = poem("abc/bca/cab");
        Check.same("26: shift", x.common(4), 3);
        Check.same("26: written", Check.lines(x, 4), 120);
        Check.same("26: a change", x.told(5), 2);
        Check.same("26: register 6", x.common(6), BAD);
        Check.same("26: register -1", x.common(-1), BAD);
        Check.same("26: no change", x.told(5), 2);
        Check.loadPoem(x, "abc/bca/abc");
        Check.same("26: two permutations", x.common(4), NONE);
        Check.same("26: NONE is a change", x.told(5), 4);
        Check.same("26: nothing written", Check.lines(x, 4), 120);
        Check.loadPoem(x, "abc/bca/caa");
        Check.same("26: not proper", x.common(4), NONE);
        Check.loadPoem(x, "abc");
        Check.same("26: one stanza", x.common(4), NONE);
        x.drop();
        Check.same("26: no stanza", x.common(4), NONE);
        Check.same("26: nothing written by any", Check.lines(x, 4), 120);
        Check.same("26: two stanzas", poem("cab/cab").common(0), 0);
    }

    private static void promise27Follows() {
        TurningVerse x = new TurningVerse();
        x.setWords(3);
        x.make(0, 3, 1);
        Check.same("27: no stanza", x.follows(0), 1);
        Check.loadPoem(x, "cab");
        Check.same("27: one proper stanza", x.follows(0), 1);
        Check.loadPoem(x, "cac");
        Check.same("27: one stanza that is not proper", x.follows(0), 0);
        Check.loadPoem(x, "cab/abc/bca");
        Check.same("27: shift", x.follows(0), 1);
        Check.same("27: identity", x.follows(1), 0);
        Check.loadPoem(x, "cab/abc/cab");
        Check.same("27: the last one is another one", x.follows(0), 0);
        Check.loadPoem(x, "cab/cab/abc");
        Check.same("27: the second one is another one", x.follows(0), 0);
        Check.loadPoem(x, "aab/aba");
        Check.same("27: not proper, though turned", x.follows(0), 0);
        Check.same("27: register 6", x.follows(6), BAD);
        Check.same("27: register -1", x.follows(-1), BAD);
        Check.same("27: no change", x.told(5), 8);
    }

    private static void promise28Cost() {
        TurningVerse x = new TurningVerse();
        Check.same("28: no stanza", x.cost(0), STATE);
        Check.same("28: BAD comes ahead of STATE", x.cost(6), BAD);
        Check.same("28: register -1", x.cost(-1), BAD);
        x = poem("abc/bca/cab");
        x.make(1, 3, 1);
        Check.same("28: follows", x.cost(1), 0);
        // Each line has each word once under the identity: one stanza can stay as it is.
        Check.same("28: identity", x.cost(0), 6);
        x.put(0, 0, 1);
        x.put(2, 2, 2);
        Check.same("28: two spoiled places", x.cost(1), 2);
        x.lock(0, 0, true);
        // Line 0 keeps one place with b, line 2 three with c, and so line 1 none with a.
        Check.same("28: one of them locked", x.cost(1), 5);
        x.lock(1, 0, true);
        Check.same("28: b locked on two lines", x.cost(1), NONE);
        x.lock(1, 0, false);
        x.lock(1, 2, true);
        Check.same("28: b and a locked on a line", x.cost(1), NONE);
        Check.same("28: no change but the calls that are", x.told(5), 8);
        Check.same("28: one stanza, all alike", poem("aaaa").cost(0), 3);
        x = poem("abcdefg/abcdefg/abcdefg/abcdefg/abcdefg/abcdefg/abcdefg/abcdefg");
        Check.same("28: all there is, and right", x.cost(0), 0);
        x.make(1, 3, 1);
        // Each line goes through all words, and is back in the last stanza: it can keep two places.
        Check.same("28: all there is, and wrong", x.cost(1), 42);
    }

    private static void promise29Mend() {
        TurningVerse x = new TurningVerse();
        Check.same("29: no stanza", x.mend(0), STATE);
        Check.same("29: BAD comes ahead of STATE", x.mend(6), BAD);
        Check.same("29: register -1", x.mend(-1), BAD);
        Check.same("29: errors are no changes", x.told(5), 0);
        x = poem("bbc/bca/cac;ab,c");
        x.make(1, 3, 1);
        Check.same("29: two spoiled places", x.mend(1), 2);
        Check.same("29: stanza 0", Check.words(x, 0), 12);
        Check.same("29: stanza 1", Check.words(x, 1), 120);
        Check.same("29: stanza 2", Check.words(x, 2), 201);
        Check.same("29: the tail stays", x.tail(1), 3);
        Check.same("29: nothing to do", x.mend(1), 0);
        Check.same("29: changes", x.told(5), 4);
        x = poem("ccc/ccc");
        Check.same("29: all alike", x.mend(0), 4);
        Check.same("29: the first row of all", Check.words(x, 0), 12);
        x = poem("abc/bca");
        // Both abc and bca keep three places, and no other row keeps so many.
        Check.same("29: two ways", x.mend(0), 3);
        Check.same("29: the first of them", Check.words(x, 0), 12);
        Check.same("29: stanza after it", Check.words(x, 1), 12);
        x = poem("ab/ba/ab/ba/ab/ba/ab/bb");
        x.make(0, 2, 0);
        Check.same("29: eight stanzas", x.mend(0), 1);
        Check.same("29: the eighth", Check.words(x, 7), 10);
    }

    private static void promise29MendWithLocks() {
        TurningVerse x = poem("aaaa/bbbb;a");
        x.make(1, 3, 1);
        x.lock(0, 3, true);
        x.lock(1, 3, true);
        // Line 3 has to be a, and line 0, which comes to line 3 of stanza 1, has to be b.
        Check.same("29: two locks", x.mend(1), 6);
        Check.same("29: stanza 0", Check.words(x, 0), 1230);
        Check.same("29: stanza 1", Check.words(x, 1), 2301);
        Check.same("29: the locks stay", x.told(3), 2);
        Check.same("29: on their places", x.lock(1, 3, true), 1);
        x = poem("aab/abb");
        x.lock(0, 0, true);
        x.lock(0, 1, true);
        Check.same("29: no such poem", x.mend(0), NONE);
        Check.same("29: stanza 0 stays", Check.words(x, 0), 1);
        Check.same("29: stanza 1 stays", Check.words(x, 1), 11);
        Check.same("29: NONE is a change", x.told(5), 4);
        Check.same("29: that can be undone", x.undo(), 3);
        Check.same("29: the locks are still there", x.told(3), 2);
    }

    private static void promise30Best() {
        TurningVerse x = new TurningVerse();
        Check.same("30: no stanza", x.best(0), STATE);
        Check.same("30: BAD comes ahead of STATE", x.best(6), BAD);
        Check.same("30: register -1", x.best(-1), BAD);
        Check.same("30: errors are no changes", x.told(5), 0);
        x = poem("abc/bca/cab");
        Check.same("30: followed", x.best(2), 0);
        Check.same("30: shift", Check.lines(x, 2), 120);
        Check.same("30: the poem stays", Check.words(x, 2), 201);
        Check.same("30: a change", x.told(5), 2);
        x.put(0, 0, 1);
        x.put(2, 2, 2);
        Check.same("30: two spoiled places", x.best(3), 2);
        // Two places are enough for the exchange too, with bac, bca and bac.
        Check.same("30: the first of two", Check.lines(x, 3), 21);
        x = poem("aaaa");
        x.make(3, 2, 0);
        Check.same("30: all permutations alike", x.best(3), 3);
        Check.same("30: the first one", Check.lines(x, 3), 123);
        // Both words of ab can stay under each of the two permutations of one stanza.
        x = poem("ab");
        x.make(3, 2, 0);
        Check.same("30: one stanza", x.best(3), 0);
        Check.same("30: the first of two", Check.lines(x, 3), 1);
        x = poem("aaaa");
        x.make(3, 2, 0);
        x.lock(0, 0, true);
        x.lock(0, 1, true);
        Check.same("30: no permutation", x.best(3), NONE);
        Check.same("30: nothing written", Check.lines(x, 3), 3210);
        Check.same("30: NONE is a change", x.told(5), 5);
        x = new TurningVerse();
        x.setWords(7);
        x.unrank(0, 4711);
        for (int s = 0; s < 8; s++) {
            x.add(0);
        }
        x.put(3, 3, x.word(3, 4));
        Check.same("30: seven words", x.best(1), 1);
        Check.same("30: which one", x.turn(1, 0), 4711);
    }

    private static void tails(String text, int lines, int words, int missing, int few) {
        TurningVerse x = poem(text);
        Check.same("31: lines of " + text, x.tail(0), lines);
        Check.same("31: words of " + text, x.tail(1), words);
        Check.same("31: missing in " + text, x.tail(2), missing);
        Check.same("31: to be replaced in " + text, x.tail(3), few);
        Check.same("31: no change", x.told(5), 1);
    }

    private static void promise31Tail() {
        tails("abc", 0, 0, 7, NONE);
        tails("abc;a", 1, 1, 6, NONE);
        tails("abc;aa,b", 2, 3, 4, 1);
        tails("abc;ccc", 1, 3, 3, 2);
        tails("abc;ab,c", 2, 3, 0, 0);
        tails("abc;ab", 1, 2, 4, NONE);
        tails("abcdefg;abc,def,a,b", 4, 8, 64, 1);
        tails("abcdefg;ggg,ggg,ggg,ggg", 4, 12, 63, 6);
        tails("abcdefg;gab,gab", 2, 6, 60, NONE);
        TurningVerse x = new TurningVerse();
        Check.same("31: what -1", x.tail(-1), BAD);
        Check.same("31: what 4", x.tail(4), BAD);
        Check.same("31: what 2 of 6 words", x.tail(2), 63);
    }

    private static void promise32TailWord() {
        TurningVerse x = poem("abcd;dcb,a,bc");
        Check.same("32: first", x.tailWord(0, 0), 3);
        Check.same("32: second", x.tailWord(0, 1), 2);
        Check.same("32: third", x.tailWord(0, 2), 1);
        Check.same("32: no fourth", x.tailWord(0, 3), NONE);
        Check.same("32: line 1", x.tailWord(1, 0), 0);
        Check.same("32: no second of line 1", x.tailWord(1, 1), NONE);
        Check.same("32: line 2", x.tailWord(2, 1), 2);
        Check.same("32: greatest int", x.tailWord(2, Integer.MAX_VALUE), NONE);
        Check.same("32: line 3", x.tailWord(3, 0), BAD);
        Check.same("32: line -1", x.tailWord(-1, 0), BAD);
        Check.same("32: k -1", x.tailWord(0, -1), BAD);
        Check.same("32: no change", x.told(5), 1);
        Check.same("32: no tail", poem("ab").tailWord(0, 0), BAD);
    }
}
