/** The edges of texts that the terms name, and those of promises 1 to 7. */
final class TextEdges {
    private static final int BAD = TurningVerse.BAD, STATE = TurningVerse.STATE, FULL = TurningVerse.FULL;

    private TextEdges() {
    }

    static void run() {
        buffer();
        faults();
        stanzas();
        firstStanza();
        furtherStanzas();
        letters();
        tails();
        cycles();
        parentheses();
        promise1();
        promise2();
        promise3();
        promise4();
        promise5();
        promise6();
        promise7();
    }

    private static void fits(String text, int stanzas) {
        TurningVerse x = new TurningVerse();
        Sentences.due(text, Check.loadPoem(x, text), stanzas);
    }

    private static void poemFault(String text, int fault) {
        TurningVerse x = new TurningVerse();
        Check.loadPoem(x, "aab;c");
        x.lock(0, 1, true);
        Check.write(x, text);
        Sentences.refused(text, x, () -> x.loadPoem(), -10 - fault);
    }

    private static void turnFault(int n, String text, int fault) {
        TurningVerse x = new TurningVerse();
        x.setWords(n);
        x.make(2, 1, 0);
        Check.write(x, text);
        Sentences.refused(text + " of " + n, x, () -> x.loadTurn(2), -10 - fault);
    }

    private static void turns(int n, String text, long lines) {
        TurningVerse x = new TurningVerse();
        x.setWords(n);
        x.make(2, 1, 0);
        Sentences.due(text + " of " + n, Check.loadTurn(x, 2, text), x.turn(2, 0));
        Sentences.due(text + " of " + n + ", lines", Check.lines(x, 2), lines);
    }

    private static void buffer() {
        Sentences.of(Sentences.TERMS, "The text buffer has at most 80 bytes");
        TurningVerse x = new TurningVerse();
        String longest = "abcdefg/".repeat(7) + "gfedcba;abc,abc,abc,gfe";
        Sentences.due("the longest poem", Check.loadPoem(x, longest), 8);
        Sentences.due("its length", x.told(4), 79);
        Sentences.due("its last word", x.tailWord(3, 2), 4);
        Sentences.due("the last byte", x.type('a'), 80);
        Sentences.due("cannot stand there", x.loadPoem(), -10 - 79);
        Sentences.refused("one more", x, () -> x.type('a'), FULL);
        Check.write(x, "(");
        for (int k = 2; k <= 80; k++) {
            x.type('(');
        }
        Sentences.due("no permutation is so long", x.loadTurn(0), -11);
    }

    private static void faults() {
        Sentences.of(Sentences.TERMS, "A text that is not right has a fault, which is the index of the first byte that"
                + " cannot stand there, or the length of the text if it ends too early");
        poemFault("ab/a!/!", 4);
        poemFault("ab/a", 4);
        poemFault("", 0);
        turnFault(4, "(1!)!", 2);
        turnFault(4, "(1", 2);
        Sentences.of(Sentences.TERMS, "There are no blanks in it");
        TurningVerse x = new TurningVerse();
        Sentences.refused("a blank", x, () -> x.type(' '), BAD);
    }

    private static void stanzas() {
        Sentences.of(Sentences.TERMS, "A poem is written as stanzas with / between two of them, then, if there is a tail, ;"
                + " and its lines with , between two of them");
        fits("ab/ba", 2);
        fits("ab/ba;a", 2);
        fits("ab/ba;a,b", 2);
        poemFault("ab//ba", 3);
        poemFault("/ab", 0);
        poemFault("ab/", 3);
        poemFault("ab;", 3);
        poemFault("ab;a;b", 4);
        poemFault("ab;a/ab", 4);
        poemFault("ab;,a", 3);
        poemFault("ab;a,,b", 5);
        poemFault("ab;a,", 5);
        poemFault("ab,a", 2);
        poemFault("ab/ba,a", 5);
        Sentences.of(Sentences.TERMS, "there is at least one stanza, and at most 8"
                + " (a / behind the 8th one cannot stand there)");
        poemFault("", 0);
        poemFault(";ab", 0);
        fits("ab", 1);
        fits("ab/ab/ab/ab/ab/ab/ab/ab", 8);
        fits("ab/ab/ab/ab/ab/ab/ab/ab;a", 8);
        poemFault("ab/ab/ab/ab/ab/ab/ab/ab/", 23);
        poemFault("ab/ab/ab/ab/ab/ab/ab/ab/ab", 23);
        poemFault("ab/ab/ab/ab/ab/ab/ab/ab/;a", 23);
    }

    private static void firstStanza() {
        Sentences.of(Sentences.TERMS, "the first stanza has 2 to 7 letters, and this number becomes n");
        for (int n = 2; n <= 7; n++) {
            TurningVerse x = new TurningVerse();
            Check.loadPoem(x, "abcdefg".substring(0, n));
            Sentences.due("n " + n, x.told(0), n);
        }
        poemFault("a", 1);
        poemFault("a/ab", 1);
        poemFault("a;a", 1);
        poemFault("abcdefgg", 7);
        poemFault("abcdefgg/!", 7);
    }

    private static void furtherStanzas() {
        Sentences.of(Sentences.TERMS, "each further stanza has equally many");
        fits("ab/ba", 2);
        fits("abcdefg/gfedcba", 2);
        poemFault("abc/ab", 6);
        poemFault("abc/ab/abc", 6);
        poemFault("abc/ab;a", 6);
        poemFault("abc/abca", 7);
        poemFault("abc/abc/abcabc", 11);
        poemFault("abcdefg/abcdefga", 15);
    }

    private static void letters() {
        Sentences.of(Sentences.TERMS, "the letters are words below n (in the first stanza: a to g");
        fits("abc/ccc;ccc", 2);
        poemFault("abc/abd", 6);
        poemFault("abc/ab`", 6);
        poemFault("abc;abd", 6);
        poemFault("abc;d", 4);
        poemFault("abc;`", 4);
        poemFault("abcdefg/abcdefh", 14);
        poemFault("abcdefg;h", 8);
        poemFault("abch", 3);
        poemFault("h", 0);
        Sentences.of(Sentences.TERMS, "if one of them is not below the number of letters of this stanza,"
                + " the first such one is the fault, which is found when the /, the ; or the end of the text follows");
        fits("abcdefg", 1);
        poemFault("abcdeg", 5);
        poemFault("abcdeg/abcdef", 5);
        poemFault("abcdeg;a", 5);
        poemFault("ca", 0);
        poemFault("ac", 1);
        poemFault("gag/aaa", 0);
        poemFault("agg;a", 1);
        Sentences.of(Sentences.TERMS, "before anything behind it is looked at");
        poemFault("abd/!", 2);
        poemFault("abd;!", 2);
        poemFault("abd/", 2);
        poemFault("abd;", 2);
        poemFault("abd//", 2);
        Sentences.of(Sentences.TERMS, "if another byte follows, that byte is the fault");
        poemFault("abd!", 3);
        poemFault("abd,", 3);
        poemFault("abdh", 3);
        poemFault("abd(/", 3);
        poemFault("abcdefga", 7);
    }

    private static void tails() {
        Sentences.of(Sentences.TERMS, "The tail has 1 to 4 lines with 1 to 3 letters each"
                + " (a , behind the 4th one cannot stand there)");
        fits("ab;a", 1);
        fits("ab;aba,bab,bbb,aaa", 1);
        poemFault("ab;", 3);
        poemFault("ab;abab", 6);
        poemFault("ab;a,baba", 8);
        poemFault("ab;a,a,a,abab", 12);
        poemFault("ab;a,a,a,", 9);
        poemFault("ab;a,b,a,b,", 10);
        poemFault("ab;a,b,a,b,a", 10);
        poemFault("ab;aba,bab,bbb,aaa,", 18);
    }

    private static void cycles() {
        Sentences.of(Sentences.TERMS, "first any line of the cycle, then always the line that the permutation gives to"
                + " the one before it (the last one is given the first one)");
        turns(4, "(134)", 2130);
        turns(4, "(341)", 2130);
        turns(4, "(413)", 2130);
        turns(2, "(12)", 10);
        turns(2, "(21)", 10);
        turns(7, "(1234567)", 1234560);
        turns(7, "(7654321)", 6012345);
        turns(3, "(2)", 12);
        Sentences.of(Sentences.TERMS, "lines that are in no parentheses are given themselves");
        turns(7, "(17)", 6123450);
        turns(7, "(4)", 123456);
        Sentences.of(Sentences.TERMS, "no line is written twice");
        turnFault(4, "(11)", 2);
        turnFault(4, "(1231)", 4);
        turnFault(4, "(12)(1)", 5);
        turnFault(4, "(12)(34)(4)", 9);
        turnFault(4, "(4)(4)", 4);
        turnFault(7, "(1234567)(7)", 10);
        Sentences.of(Sentences.TERMS, "which contain the numbers i + 1 of lines i as digits");
        turnFault(7, "(0)", 1);
        turnFault(7, "(8)", 1);
        turnFault(7, "(9)", 1);
        turnFault(2, "(3)", 1);
        turnFault(7, "(/)", 1);
        turns(2, "(2)", 1);
    }

    private static void parentheses() {
        Sentences.of(Sentences.TERMS, "Parentheses contain at least one digit");
        turnFault(4, "()", 1);
        turnFault(4, "(1)()", 4);
        turnFault(4, "())", 1);
        turns(4, "(1)", 123);
        Sentences.of(Sentences.TERMS, "the empty text is the identity");
        turns(2, "", 1);
        turns(7, "", 123456);
        Sentences.of(Sentences.TERMS, "A ( can stand at the beginning and behind each ), also if every line is written"
                + " already: then the byte behind this ( cannot stand there, or the text ends too early");
        turnFault(2, "(12)(", 5);
        turnFault(2, "(12)(1", 5);
        turnFault(2, "(12)()", 5);
        turnFault(2, "(12)((", 5);
        turnFault(2, "(12)(3)", 5);
        turnFault(7, "(1)(2)(3)(4)(5)(6)(7)(", 22);
        turnFault(2, "(12))", 4);
        turnFault(2, "(12)1", 4);
        turnFault(2, "((12)", 1);
        turnFault(2, "(1(2)", 2);
        turnFault(2, "1", 0);
        turnFault(2, ")", 0);
        turnFault(2, "(", 1);
    }

    private static void promise1() {
        Sentences.of(1, "Creates an object without stanzas, with an empty text buffer");
        TurningVerse x = new TurningVerse();
        Sentences.due("stanzas", x.told(1), 0);
        Sentences.due("bytes", x.told(4), 0);
        Sentences.due("remembered states", x.told(5), 0);
        Sentences.refused("nothing to undo", x, () -> x.undo(), STATE);
        Sentences.refused("no text of a poem", x, () -> x.loadPoem(), -10);
        Sentences.due("follows all", x.follows(5), 1);
        x.type('a');
        x.add(0);
        Sentences.due("not those of another object", new TurningVerse().told(1), 0);
        Sentences.due("nor its text", new TurningVerse().told(4), 0);
    }

    private static void promise2() {
        Sentences.of(2, "also if the number is the same as before");
        TurningVerse x = new TurningVerse();
        Check.loadPoem(x, "fedcba;a,b");
        x.unrank(5, 719);
        x.setSound(5, 3);
        x.lock(0, 5, true);
        x.setWords(6);
        TurningVerse y = new TurningVerse();
        Check.write(y, "fedcba;a,b");
        for (int k = 0; k < 5; k++) {
            y.setWords(6);
        }
        Sentences.due("all is as at first, but the text and what is remembered", x.digest(), y.digest());
        Sentences.of(2, "`n`: 2 to 7");
        Sentences.due("the least", x.setWords(2), 6);
        Sentences.due("the greatest", x.setWords(7), 2);
        Sentences.due("that again", x.setWords(7), 7);
        Sentences.of(2, "BAD if n is out of range");
        Sentences.outside("n", x, 2, 7, n -> x.setWords(n));
    }

    private static void promise3() {
        Sentences.of(3, "`w`: the word, 0 to n - 1");
        TurningVerse x = new TurningVerse();
        Sentences.due("the first", x.setSound(0, 3), 0);
        Sentences.due("the last of 6", x.setSound(5, 3), 1);
        Sentences.due("the first has it", x.setSound(0, 3), 3);
        Sentences.due("the last has it", x.setSound(5, 3), 3);
        Sentences.due("the one ahead of it has its own", x.setSound(4, 0), 0);
        TurningVerse two = new TurningVerse();
        two.setWords(2);
        Sentences.due("the last of 2", two.setSound(1, 0), 1);
        Sentences.of(3, "`v`: the sound, 0 to 3");
        Sentences.due("to the least", x.setSound(2, 0), 2);
        Sentences.due("to the greatest", x.setSound(2, 3), 0);
        Sentences.due("it is", x.setSound(2, 1), 3);
        Sentences.of(3, "BAD if there is no such word, or v is out of range");
        Sentences.outside("w", x, 0, 5, w -> x.setSound(w, 0));
        Sentences.outside("w of 2", two, 0, 1, w -> two.setSound(w, 0));
        Sentences.outside("v", x, 0, 3, v -> x.setSound(0, v));
    }

    private static void promise4() {
        Sentences.of(4, "`c`: the byte, 33 to 126");
        TurningVerse x = new TurningVerse();
        Sentences.due("the least", x.type(33), 1);
        Sentences.due("the greatest", x.type(126), 2);
        Sentences.of(4, "BAD if c is out of range");
        Sentences.outside("c", x, 33, 126, c -> x.type(c));
        // As a byte, this would be an a.
        Sentences.refused("c 353", x, () -> x.type(256 + 97), BAD);
        Sentences.of(4, "FULL if it has 80");
        for (int k = 3; k < 80; k++) {
            x.type('a');
        }
        Sentences.due("with 79", x.type('a'), 80);
        Sentences.refused("with 80", x, () -> x.type('a'), FULL);
        x.clear();
        Sentences.due("emptied", x.type('a'), 1);
    }

    private static void promise5() {
        Sentences.of(5, "Returns how many bytes it had");
        TurningVerse x = new TurningVerse();
        Sentences.due("none", x.clear(), 0);
        for (int k = 0; k < 80; k++) {
            x.type('(');
        }
        Sentences.due("all there can be", x.clear(), 80);
        Sentences.due("none again", x.clear(), 0);
        Sentences.due("the empty text is read", x.loadTurn(0), 0);
    }

    private static void promise6() {
        Sentences.of(6, "(without a tail, if none is written)");
        TurningVerse x = new TurningVerse();
        Check.loadPoem(x, "abc/cab;ab,c");
        Check.loadPoem(x, "abc");
        Sentences.due("no tail", x.tail(0), 0);
        Sentences.due("nor a stanza of before", x.told(1), 1);
        Sentences.of(6, "no place is locked then");
        x.lock(0, 0, true);
        x.lock(0, 2, true);
        x.loadPoem();
        Sentences.due("the same poem", x.told(3), 0);
        Sentences.of(6, "If n becomes another number, registers and sounds are as at first");
        x.unrank(5, 5);
        x.setSound(0, 3);
        Check.loadPoem(x, "cba");
        Sentences.due("the same number, a register", x.turn(5, 0), 5);
        Sentences.due("the same number, a sound", x.setSound(0, 3), 3);
        Check.loadPoem(x, "ab");
        Sentences.due("a smaller number, a register", x.turn(5, 0), 0);
        Sentences.due("a smaller number, a sound", x.setSound(0, 3), 0);
        x.unrank(0, 1);
        Check.loadPoem(x, "abcdefg");
        Sentences.due("a greater number, a register", Check.lines(x, 0), 123456);
        Sentences.due("a greater number, the first sound", x.setSound(0, 0), 0);
        Sentences.due("a greater number, the last sound", x.setSound(6, 0), 2);
        Sentences.of(6, "-10 minus the fault, if there is one (then nothing changes)");
        poemFault("!", 0);
        poemFault("abcde!", 5);
        poemFault("abcdefg/".repeat(7) + "abcdefg;abc,abc,abc,abca", 79);
        Sentences.of(6, "Reads the text buffer, which stays");
        Sentences.due("the fault is found again", Check.loadPoem(x, "ab/a"), -14);
        Sentences.due("the text stays with a fault", x.loadPoem(), -14);
        x.type('b');
        Sentences.due("and is completed", x.loadPoem(), 2);
        Sentences.due("the text stays without one", x.told(4), 5);
    }

    private static void promise7() {
        Sentences.of(7, "`r`: the register, 0 to 5");
        TurningVerse x = new TurningVerse();
        Sentences.due("the first", Check.loadTurn(x, 0, "(56)"), 1);
        Sentences.due("the last", x.loadTurn(5), 1);
        Sentences.due("the first has it", x.turn(0, 0), 1);
        Sentences.due("the last has it", x.turn(5, 0), 1);
        Sentences.due("the one ahead of it has not", x.turn(4, 0), 0);
        Sentences.of(7, "BAD if there is no such register");
        Sentences.outside("r", x, 0, 5, r -> x.loadTurn(r));
        Sentences.of(7, "-10 minus the fault, if there is one (then nothing changes)");
        turnFault(4, "!", 0);
        turnFault(4, "(12)(", 5);
        turnFault(7, "(1)(2)(3)(4)(5)(6)(7))", 21);
    }
}
