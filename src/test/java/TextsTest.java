/** Promises 1 to 7: a new object, words, texts. */
public final class TextsTest {
    private TextsTest() {
    }

    public static void main(String[] args) {
        promise1NewObject();
        promise2SetWords();
        promise3SetSound();
        promise4Type();
        promise5Clear();
        promise6LoadPoem();
        promise6FaultsOfStanzas();
        promise6FaultsOfTails();
        promise7LoadTurn();
        promise7Faults();
        Check.end("TextsTest");
    }

    private static void promise1NewObject() {
        TurningVerse x = new TurningVerse();
        int[] told = {6, 0, 0, 0, 0, 0};
        for (int what = 0; what < 6; what++) {
            Check.same("1: told " + what, x.told(what), told[what]);
        }
        for (int r = 0; r < 6; r++) {
            Check.same("1: register " + r, Check.lines(x, r), 12345);
        }
        Check.same("1: no tail", x.tail(0), 0);
        Check.same("1: no state to go back to", x.undo(), TurningVerse.STATE);
        x.add(0);
        Check.same("1: sounds 012301", x.scheme(0), 3235);
        Check.same("1: no locks", x.told(3), 0);
    }

    private static void promise2SetWords() {
        TurningVerse x = new TurningVerse();
        Check.same("2: 1", x.setWords(1), TurningVerse.BAD);
        Check.same("2: 8", x.setWords(8), TurningVerse.BAD);
        Check.same("2: least int", x.setWords(Integer.MIN_VALUE), TurningVerse.BAD);
        Check.same("2: greatest int", x.setWords(Integer.MAX_VALUE), TurningVerse.BAD);
        Check.same("2: an error is no change", x.told(5), 0);
        Check.same("2: 2", x.setWords(2), 6);
        Check.same("2: 7", x.setWords(7), 2);
        Check.same("2: two changes", x.told(5), 2);
        Check.same("2: n", x.told(0), 7);
        Check.same("2: registers", Check.lines(x, 5), 123456);
        Check.loadPoem(x, "abcdefg;ab");
        x.setSound(0, 3);
        x.make(0, 2, 0);
        x.lock(0, 0, true);
        Check.same("2: 7 again", x.setWords(7), 7);
        Check.same("2: registers as at first", Check.lines(x, 0), 123456);
        Check.same("2: no stanza", x.told(1), 0);
        Check.same("2: no lock", x.told(3), 0);
        Check.same("2: no tail", x.tail(0), 0);
        Check.same("2: the text stays", x.told(4), 10);
        x.add(0);
        // Sounds 0123012: 0 1 2 3 0 1 2 to the base 7.
        Check.same("2: sounds as at first", x.scheme(0), 22647);
        Check.same("2: the new stanza is not locked", x.told(3), 0);
    }

    private static void promise3SetSound() {
        TurningVerse x = new TurningVerse();
        Check.same("3: word -1", x.setSound(-1, 0), TurningVerse.BAD);
        Check.same("3: word 6", x.setSound(6, 0), TurningVerse.BAD);
        Check.same("3: sound -1", x.setSound(0, -1), TurningVerse.BAD);
        Check.same("3: sound 4", x.setSound(0, 4), TurningVerse.BAD);
        Check.same("3: an error is no change", x.told(5), 0);
        int[] first = {0, 1, 2, 3, 0, 1};
        for (int w = 0; w < 6; w++) {
            Check.same("3: first sound of " + w, x.setSound(w, 3 - first[w]), first[w]);
        }
        for (int w = 0; w < 6; w++) {
            Check.same("3: second sound of " + w, x.setSound(w, 3 - first[w]), 3 - first[w]);
        }
        Check.same("3: a change also if all is as before", x.told(5), 8);
        x.add(0);
        Check.same("3: the same rhymes", x.scheme(0), 3235);
        x.setSound(1, 3);
        // Sounds 3 3 1 0 3 2: lines 0 0 2 3 0 5.
        Check.same("3: other rhymes", x.scheme(0), 2 * 343 + 3 * 49 + 5);
    }

    private static void promise4Type() {
        TurningVerse x = new TurningVerse();
        Check.same("4: 32", x.type(32), TurningVerse.BAD);
        Check.same("4: 127", x.type(127), TurningVerse.BAD);
        Check.same("4: -1", x.type(-1), TurningVerse.BAD);
        Check.same("4: 97 + 256", x.type(353), TurningVerse.BAD);
        Check.same("4: 33", x.type(33), 1);
        Check.same("4: 126", x.type(126), 2);
        for (int k = 3; k <= 80; k++) {
            Check.same("4: byte " + k, x.type(97), k);
        }
        Check.same("4: byte 81", x.type(97), TurningVerse.FULL);
        Check.same("4: BAD comes ahead of FULL", x.type(32), TurningVerse.BAD);
        Check.same("4: length", x.told(4), 80);
        Check.same("4: no change", x.told(5), 0);
    }

    private static void promise5Clear() {
        TurningVerse x = new TurningVerse();
        Check.same("5: empty", x.clear(), 0);
        Check.write(x, "abc");
        Check.same("5: three", x.clear(), 3);
        Check.same("5: emptied", x.told(4), 0);
        Check.same("5: again", x.clear(), 0);
        Check.same("5: the first byte again", x.type(97), 1);
        Check.same("5: no change", x.told(5), 0);
    }

    private static void promise6LoadPoem() {
        TurningVerse x = new TurningVerse();
        x.make(0, 2, 0);
        x.setSound(0, 1);
        x.add(0);
        x.lock(0, 0, true);
        Check.same("6: n stays", Check.loadPoem(x, "ffffff/badcfe/abcdef;ab,fff"), 3);
        Check.same("6: the text stays", x.told(4), 27);
        Check.same("6: stanzas", x.told(1), 3);
        Check.same("6: stanza 0", Check.words(x, 0), 555555);
        Check.same("6: stanza 1", Check.words(x, 1), 103254);
        Check.same("6: stanza 2", Check.words(x, 2), 12345);
        Check.same("6: no lock", x.told(3), 0);
        Check.same("6: tail lines", x.tail(0), 2);
        Check.same("6: tail words", x.tail(1), 5);
        Check.same("6: registers stay", Check.lines(x, 0), 543210);
        Check.same("6: sounds stay", x.setSound(0, 1), 1);
        Check.same("6: loaded again", x.loadPoem(), 3);
        Check.same("6: changes", x.told(5), 7);
        Check.same("6: n becomes 2", Check.loadPoem(x, "ba"), 1);
        Check.same("6: n", x.told(0), 2);
        Check.same("6: without a tail", x.tail(0), 0);
        Check.same("6: registers as at first", Check.lines(x, 0), 1);
        Check.same("6: sounds as at first", x.setSound(0, 0), 0);
        Check.same("6: 7 letters", Check.loadPoem(x, "ggggggg;a,b,c,gfe"), 1);
        Check.same("6: n is 7", x.told(0), 7);
        Check.same("6: 8 stanzas", Check.loadPoem(x, "ab/ab/ab/ab/ab/ab/ab/ba;a"), 8);
        Check.same("6: stanza 7", Check.words(x, 7), 10);
        Check.same("6: undone", x.undo(), 7);
        Check.same("6: n is back", x.told(0), 7);
        Check.same("6: the text is not", x.told(4), 25);
    }

    private static void poemFault(String text, int fault) {
        TurningVerse x = new TurningVerse();
        x.add(0);
        Check.loadPoem(x, "aabcde;f");
        long before = x.digest();
        Check.same("6: fault of " + text, Check.loadPoem(x, text), -10 - fault);
        Check.same("6: nothing recorded by " + text, x.told(5), 2);
        Check.write(x, "aabcde;f");
        Check.same("6: nothing changed by " + text, x.digest(), before);
    }

    private static void promise6FaultsOfStanzas() {
        poemFault("", 0);
        poemFault("/", 0);
        poemFault(";", 0);
        poemFault("h", 0);
        poemFault("A", 0);
        poemFault("`", 0);
        poemFault("a", 1);
        poemFault("a/ab", 1);
        poemFault("a;a", 1);
        poemFault("abc!", 3);
        poemFault("gfa!", 3);
        poemFault("gfah", 3);
        poemFault("gfa,", 3);
        poemFault("gfa", 0);
        poemFault("agf", 1);
        poemFault("agf/", 1);
        poemFault("abd;!", 2);
        poemFault("abd/!", 2);
        poemFault("abcdefga", 7);
        poemFault("abcdefg!", 7);
        poemFault("ab/", 3);
        poemFault("ab/a", 4);
        poemFault("ab//", 3);
        poemFault("ab/a/ab", 4);
        poemFault("ab/a;a", 4);
        poemFault("ab/;a", 3);
        poemFault("ab/ac", 4);
        poemFault("ab/aba", 5);
        poemFault("ab/ab,a", 5);
        poemFault("ab/ab/ab/ab/ab/ab/ab/ab/ab", 23);
        poemFault("ab/ab/ab/ab/ab/ab/ab/ab/", 23);
        poemFault("(12)", 0);
    }

    private static void promise6FaultsOfTails() {
        poemFault("ab;", 3);
        poemFault("ab;;", 3);
        poemFault("ab;,", 3);
        poemFault("ab;/", 3);
        poemFault("ab;c", 3);
        poemFault("ab;abab", 6);
        poemFault("ab;a,", 5);
        poemFault("ab;a,,", 5);
        poemFault("ab;a/ab", 4);
        poemFault("ab;a;a", 4);
        poemFault("ab;aba,abaa", 10);
        poemFault("ab;a,a,a,a,a", 10);
        poemFault("ab;a,a,a,a,", 10);
        poemFault("ab;aaa,aaa,aaa,aaaa", 18);
        poemFault("ab/ba/ab;ab,c", 12);
    }

    private static void promise7LoadTurn() {
        TurningVerse x = new TurningVerse();
        Check.same("7: identity", Check.loadTurn(x, 5, ""), 0);
        Check.same("7: a change", x.told(5), 1);
        // Line 0 is given 2, line 2 is given 1, line 1 is given 0.
        Check.same("7: (132)", Check.loadTurn(x, 0, "(132)"), 240);
        Check.same("7: lines of (132)", Check.lines(x, 0), 201345);
        Check.same("7: (4)(16)(253)", Check.loadTurn(x, 1, "(4)(16)(253)"), 707);
        Check.same("7: lines of (4)(16)(253)", Check.lines(x, 1), 541320);
        Check.same("7: (654321)", Check.loadTurn(x, 2, "(654321)"), 600);
        Check.same("7: lines of (654321)", Check.lines(x, 2), 501234);
        Check.same("7: all alone", Check.loadTurn(x, 2, "(1)(2)(3)(4)(5)(6)"), 0);
        Check.same("7: the text stays", x.told(4), 18);
        Check.same("7: and is read again", x.loadTurn(4), 0);
        Check.same("7: register -1", x.loadTurn(-1), TurningVerse.BAD);
        Check.same("7: register 6", x.loadTurn(6), TurningVerse.BAD);
        Check.write(x, "!");
        Check.same("7: BAD comes ahead of the fault", x.loadTurn(6), TurningVerse.BAD);
        Check.same("7: six changes", x.told(5), 6);
        x.setWords(7);
        Check.same("7: the last one of 7", Check.loadTurn(x, 0, "(17)(26)(35)"), 5039);
        x.setWords(2);
        Check.same("7: the last one of 2", Check.loadTurn(x, 0, "(12)"), 1);
    }

    private static void turnFault(String text, int fault) {
        TurningVerse x = new TurningVerse();
        x.setWords(4);
        x.make(3, 1, 0);
        Check.same("7: fault of " + text, Check.loadTurn(x, 3, text), -10 - fault);
        Check.same("7: nothing recorded by " + text, x.told(5), 2);
        Check.same("7: nothing changed by " + text, Check.lines(x, 3), 3021);
    }

    private static void promise7Faults() {
        turnFault("1", 0);
        turnFault(")", 0);
        turnFault("a", 0);
        turnFault("(", 1);
        turnFault("()", 1);
        turnFault("((", 1);
        turnFault("(0)", 1);
        turnFault("(5)", 1);
        turnFault("(a)", 1);
        turnFault("(1", 2);
        turnFault("(12", 3);
        turnFault("(1(", 2);
        turnFault("(11)", 2);
        turnFault("(121)", 3);
        turnFault("(12)3", 4);
        turnFault("(12))", 4);
        turnFault("(12)(1)", 5);
        turnFault("(12)(32)", 6);
        turnFault("(1234)(", 7);
        turnFault("(1234)()", 7);
        turnFault("(1234)(1)", 7);
        turnFault("(12),(34)", 4);
    }
}
