/** The edges that promises 8 to 18 name. */
final class PermutationEdges {
    private static final int BAD = TurningVerse.BAD, NONE = TurningVerse.NONE;

    private PermutationEdges() {
    }

    static void run() {
        promise8Kinds();
        promise8Arguments();
        promise9();
        promise10();
        promise11();
        promise12();
        promise13();
        promise14();
        promise15();
        promise16();
        promise17();
        promise18Factors();
        promise18Arguments();
    }

    private static TurningVerse of(int n) {
        TurningVerse x = new TurningVerse();
        x.setWords(n);
        return x;
    }

    /** Register 0 has the shift by 1, register 5 the reversal. */
    private static TurningVerse turner(int n) {
        TurningVerse x = of(n);
        x.make(0, 3, 1);
        x.make(5, 2, 0);
        return x;
    }

    private static void made(int n, int kind, int k, long lines) {
        TurningVerse x = of(n);
        x.make(2, kind == 2 ? 3 : 2, 1);
        Sentences.due("number, k " + k + " of " + n, x.make(2, kind, k), x.turn(2, 0));
        Sentences.due("lines, k " + k + " of " + n, Check.lines(x, 2), lines);
    }

    private static void promise8Kinds() {
        Sentences.of(8, "0 for the identity");
        made(2, 0, 0, 1);
        made(7, 0, 0, 123456);
        Sentences.of(8, "1 for the spiral, which gives the lines, in order, the last line, the first one,"
                + " the last but one, the second one, and so on");
        made(2, 1, 0, 10);
        made(3, 1, 0, 201);
        made(6, 1, 0, 504132);
        made(7, 1, 0, 6051423);
        Sentences.of(8, "2 for the reversal, which gives line i the line n - 1 - i");
        made(2, 2, 0, 10);
        made(3, 2, 0, 210);
        made(7, 2, 0, 6543210);
        Sentences.of(8, "3 for the shift, which gives line i the line (i + k) modulo n");
        made(2, 3, 0, 1);
        made(2, 3, 1, 10);
        made(7, 3, 0, 123456);
        made(7, 3, 1, 1234560);
        made(7, 3, 6, 6012345);
        Sentences.of(8, "4 for the exchange of the lines 0 and k");
        made(2, 4, 0, 1);
        made(2, 4, 1, 10);
        made(7, 4, 0, 123456);
        made(7, 4, 6, 6123450);
        Sentences.of(8, "5 for the weave, which gives the lines, in order, all even lines in ascending order,"
                + " then all odd ones");
        made(2, 5, 0, 1);
        made(3, 5, 0, 21);
        made(6, 5, 0, 24135);
        made(7, 5, 0, 246135);
    }

    private static void promise8Arguments() {
        Sentences.of(8, "`r`: the register, 0 to 5");
        TurningVerse x = new TurningVerse();
        Sentences.due("into the first", x.make(0, 2, 0), 719);
        Sentences.due("into the last", x.make(5, 2, 0), 719);
        Sentences.due("the first", x.turn(0, 0), 719);
        Sentences.due("the last", x.turn(5, 0), 719);
        Sentences.due("the one ahead of it", x.turn(4, 0), 0);
        Sentences.of(8, "`k`: 0 to n - 1 (it matters for 3 and 4 alone)");
        for (int n = 2; n <= 7; n++) {
            TurningVerse y = of(n);
            int last = n - 1;
            for (int kind = 0; kind <= 5; kind++) {
                int first = y.make(0, kind, 0);
                boolean same = y.make(1, kind, last) == first;
                Sentences.due("kind " + kind + " of " + n, same ? 1 : 0, kind == 3 || kind == 4 ? 0 : 1);
                int which = kind;
                Sentences.outside("kind " + kind + " of " + n + ", k", y, 0, last, k -> y.make(0, which, k));
            }
        }
        Sentences.of(8, "BAD if an argument is out of range");
        Sentences.outside("r", x, 0, 5, r -> x.make(r, 2, 0));
        Sentences.outside("kind", x, 0, 5, kind -> x.make(1, kind, 0));
        Sentences.outside("k", x, 0, 5, k -> x.make(1, 2, k));
    }

    private static void promise9() {
        TurningVerse x = turner(3);
        // The shift is 120, the reversal 210: p(q(i)) is 021 for the shift first, and 102 for the reversal first.
        Sentences.of(9, "`a`: the register of the first one, 0 to 5");
        Sentences.due("the first register", x.product(0, 1, 2), 3);
        Sentences.due("the last register", x.product(5, 1, 2), 5);
        Sentences.of(9, "`b`: the register of the second one, 0 to 5");
        Sentences.due("the first register", x.product(5, 0, 2), 2);
        Sentences.due("the last register", x.product(0, 5, 2), 1);
        Sentences.of(9, "`to`: the register that is written, 0 to 5");
        Sentences.due("into the last, which is a factor", x.product(0, 5, 5), 1);
        Sentences.due("it is there", Check.lines(x, 5), 21);
        Sentences.due("into the first, which is both factors", x.product(0, 0, 0), 4);
        Sentences.due("it is there too", Check.lines(x, 0), 201);
        Sentences.of(9, "BAD if there is no such register");
        Sentences.outside("a", x, 0, 5, r -> x.product(r, 0, 0));
        Sentences.outside("b", x, 0, 5, r -> x.product(0, r, 0));
        Sentences.outside("to", x, 0, 5, r -> x.product(0, 0, r));
    }

    private static void promise10() {
        TurningVerse x = turner(7);
        Sentences.of(10, "`a`: the register of the permutation, 0 to 5");
        Sentences.due("the first", x.power(0, 1, 2), 873);
        Sentences.due("the last", x.power(5, 1, 2), 5039);
        Sentences.of(10, "`k`: the power, -1000000 to 1000000");
        // 1000000 is 7 * 142857 + 1.
        Sentences.due("the greatest", x.power(0, 1000000, 2), 873);
        Sentences.due("the least", x.power(0, -1000000, 2), 4320);
        Sentences.due("the greatest but one", x.power(0, 999999, 2), 0);
        Sentences.due("the least but one", x.power(0, -999999, 2), 0);
        Sentences.due("0", x.power(0, 0, 2), 0);
        Sentences.due("0 of the reversal", x.power(5, 0, 2), 0);
        Sentences.of(10, "below 0 it is that of the inverse");
        Sentences.due("-1", x.power(0, -1, 2), 4320);
        Sentences.due("-6", x.power(0, -6, 2), 873);
        Sentences.due("-7", x.power(0, -7, 2), 0);
        Sentences.of(10, "`to`: the register that is written, 0 to 5");
        Sentences.due("into the last", x.power(0, 2, 5), x.turn(5, 0));
        Sentences.due("the last", Check.lines(x, 5), 2345601);
        Sentences.due("into the first, which is the base", x.power(0, -2, 0), x.turn(0, 0));
        Sentences.due("the first", Check.lines(x, 0), 5601234);
        Sentences.of(10, "BAD if an argument is out of range");
        Sentences.outside("a", x, 0, 5, r -> x.power(r, 1, 0));
        Sentences.outside("k", x, -1000000, 1000000, k -> x.power(5, k, 0));
        Sentences.outside("to", x, 0, 5, r -> x.power(0, 1, r));
    }

    private static void promise11() {
        Sentences.of(11, "`r`: the register, 0 to 5");
        TurningVerse x = new TurningVerse();
        Sentences.due("into the first", x.unrank(0, 719), 2);
        Sentences.due("into the last", x.unrank(5, 718), 4);
        Sentences.due("the first", Check.lines(x, 0), 543210);
        Sentences.due("the last", Check.lines(x, 5), 543201);
        Sentences.of(11, "BAD if there is no such register or number");
        Sentences.outside("r", x, 0, 5, r -> x.unrank(r, 0));
        int count = 1;
        for (int n = 2; n <= 7; n++) {
            count *= n;
            TurningVerse y = of(n);
            Sentences.due("the least of " + n, y.unrank(1, 0), 1);
            Sentences.due("the greatest of " + n, y.unrank(1, count - 1), 2);
            Sentences.due("which is that, of " + n, y.turn(1, 0), count - 1);
            Sentences.outside("k of " + n, y, 0, count - 1, k -> y.unrank(1, k));
        }
    }

    private static void promise12() {
        TurningVerse x = turner(7);
        Sentences.of(12, "Puts the first permutation, by its number, whose power k is a permutation into a register");
        // All permutations of order 2 are roots too, and the identity is ahead of them.
        Sentences.due("the first of all", x.root(1, 2, 2), 0);
        Check.loadTurn(x, 1, "(12)(34)(567)");
        // Root 3 of (567) there is none; root 2 is one of the two cycles of four lines, with (576).
        Sentences.due("none", x.root(1, 3, 2), NONE);
        x.root(1, 2, 2);
        Sentences.due("the first of two", Check.lines(x, 2), 2310645);
        Sentences.of(12, "`a`: the register of the permutation, 0 to 5");
        Sentences.due("the first", x.root(0, 1, 2), 873);
        Sentences.due("the last", x.root(5, 1, 2), 5039);
        Sentences.of(12, "`k`: the power, 1 to 12");
        Sentences.due("the least", x.root(0, 1, 2), 873);
        // 12 * 3 is 5 * 7 + 1: it is the shift by 3.
        x.root(0, 12, 2);
        Sentences.due("the greatest", Check.lines(x, 2), 3456012);
        Sentences.of(12, "`to`: the register that is written, 0 to 5");
        x.root(0, 2, 5);
        Sentences.due("into the last", Check.lines(x, 5), 4560123);
        x.root(0, 6, 0);
        Sentences.due("into the first, which is the power", Check.lines(x, 0), 6012345);
        Sentences.of(12, "NONE if there is none (then nothing is written)");
        TurningVerse y = turner(7);
        Sentences.due("a root 7 of a cycle of 7", y.root(0, 7, 5), NONE);
        Sentences.due("the register", y.turn(5, 0), 5039);
        Sentences.due("but it is a change", y.told(5), 4);
        Sentences.due("that is undone", y.undo(), 3);
        Sentences.of(12, "BAD if an argument is out of range");
        Sentences.outside("a", x, 0, 5, r -> x.root(r, 1, 0));
        Sentences.outside("k", x, 1, 12, k -> x.root(5, k, 0));
        Sentences.outside("to", x, 0, 5, r -> x.root(0, 1, r));
    }

    private static void promise13() {
        TurningVerse x = turner(7);
        Sentences.of(13, "`r`: the register, 0 to 5");
        Sentences.due("the first", x.at(0, 1), 2);
        Sentences.due("the last", x.at(5, 1), 5);
        Sentences.of(13, "`i`: the line, 0 to n - 1");
        Sentences.due("the first", x.at(0, 0), 1);
        Sentences.due("the last of 7", x.at(0, 6), 0);
        TurningVerse two = turner(2);
        Sentences.due("the last of 2", two.at(0, 1), 0);
        Sentences.of(13, "BAD if there is no such register or line");
        Sentences.outside("r", x, 0, 5, r -> x.at(r, 0));
        Sentences.outside("i of 7", x, 0, 6, i -> x.at(0, i));
        Sentences.outside("i of 2", two, 0, 1, i -> two.at(0, i));
    }

    private static void properties(int n, String text, int... due) {
        TurningVerse x = of(n);
        Check.loadTurn(x, 5, text);
        for (int what = 0; what <= 6; what++) {
            Sentences.due("turn " + what + " of " + text + " of " + n, x.turn(5, what), due[what]);
        }
    }

    private static void promise14() {
        Sentences.of(14, "`r`: the register, 0 to 5");
        TurningVerse x = turner(7);
        Sentences.due("the first", x.turn(0, 0), 873);
        Sentences.due("the last", x.turn(5, 0), 5039);
        Sentences.of(14, "`what`: 0 for its number, 1 for its order, 2 for how many cycles it has (those of one line"
                + " included), 3 for how many lines are given themselves, 4 for the most lines of a cycle, 5 for 1 if"
                + " it exchanges an odd number of pairs of lines (pairs i < j with p(i) above p(j)), otherwise 0,"
                + " 6 for its type: the sum of 8 to the power of (the number of its lines minus 1), for all its cycles");
        properties(2, "", 0, 1, 2, 2, 1, 0, 2);
        properties(2, "(12)", 1, 2, 1, 0, 2, 1, 8);
        properties(7, "", 0, 1, 7, 7, 1, 0, 7);
        properties(7, "(7654321)", 4320, 7, 1, 0, 7, 0, 262144);
        properties(7, "(17)(26)(35)", 5039, 2, 4, 1, 2, 1, 25);
        properties(7, "(1324)(567)", 1707, 12, 2, 0, 4, 1, 576);
        properties(7, "(67)", 1, 2, 6, 5, 2, 1, 13);
        Sentences.of(14, "BAD if there is no such register or what is out of range");
        Sentences.outside("r", x, 0, 5, r -> x.turn(r, 0));
        Sentences.outside("what", x, 0, 6, what -> x.turn(0, what));
    }

    private static void promise15() {
        TurningVerse x = turner(7);
        Sentences.of(15, "(by one turn a word comes from the line p(j) to the line j)");
        Sentences.due("from line 3", x.places(0, 3, 1), 8 + 4);
        Sentences.of(15, "`r`: the register of the permutation, 0 to 5");
        Sentences.due("the first", x.places(0, 1, 1), 2 + 1);
        Sentences.due("the last", x.places(5, 1, 1), 2 + 32);
        Sentences.of(15, "`i`: the line at which the word is at first, 0 to n - 1");
        Sentences.due("the first, which comes to the last", x.places(0, 0, 1), 1 + 64);
        Sentences.due("the last", x.places(0, 6, 1), 64 + 32);
        TurningVerse two = turner(2);
        Sentences.due("the last of 2", two.places(0, 1, 1), 3);
        Sentences.of(15, "`k`: how often it is turned, 0 to 100");
        Sentences.due("not at all", x.places(0, 6, 0), 64);
        Sentences.due("once round but one", x.places(0, 6, 5), 126);
        Sentences.due("once round", x.places(0, 6, 6), 127);
        Sentences.due("and on", x.places(0, 6, 7), 127);
        Sentences.due("most often", x.places(0, 6, 100), 127);
        Sentences.due("the identity most often", x.places(1, 6, 100), 64);
        Sentences.of(15, "from the first one to the one that is turned k times, as a bit mask (so line i is one of them)");
        Sentences.due("there and back again", x.places(5, 0, 2), 1 + 64);
        Sentences.due("the line in the middle", x.places(5, 3, 99), 8);
        Sentences.of(15, "BAD if an argument is out of range");
        Sentences.outside("r", x, 0, 5, r -> x.places(r, 0, 0));
        Sentences.outside("i of 7", x, 0, 6, i -> x.places(0, i, 0));
        Sentences.outside("i of 2", two, 0, 1, i -> two.places(0, i, 0));
        Sentences.outside("k", x, 0, 100, k -> x.places(0, 0, k));
    }

    private static void promise16() {
        TurningVerse x = turner(7);
        Sentences.of(16, "as products of any length (also 0)");
        Check.loadTurn(x, 3, "(124)");
        Sentences.due("a cycle of three, with the identity", x.generated(8), 3);
        Sentences.due("the identity alone", x.generated(2), 1);
        Sentences.of(16, "`set`: the set of the registers, as a bit mask, 0 to 63");
        Sentences.due("the first register", x.generated(1), 7);
        Sentences.due("the last register", x.generated(32), 2);
        Sentences.due("both", x.generated(33), 14);
        x.make(4, 4, 6);
        Sentences.due("all registers, all permutations", x.generated(63), 5040);
        TurningVerse two = turner(2);
        Sentences.due("all registers of 2", two.generated(63), 2);
        Sentences.due("no more than those of one", two.generated(1), 2);
        Sentences.of(16, "Returns how many there are (1, the identity, for the empty set)");
        Sentences.due("of 7", x.generated(0), 1);
        Sentences.due("of 2", two.generated(0), 1);
        Sentences.of(16, "BAD if set is out of range");
        Sentences.outside("set", x, 0, 63, set -> x.generated(set));
    }

    private static void promise17() {
        TurningVerse x = turner(7);
        x.make(2, 3, 6);
        Sentences.of(17, "`set`: the set of the registers of the factors, as a bit mask, 0 to 63");
        Sentences.due("the first register", x.reach(1, 2), 6);
        Sentences.due("the last register", x.reach(32, 5), 1);
        Sentences.due("no register", x.reach(0, 5), NONE);
        Sentences.due("all registers", x.reach(63, 2), 1);
        Sentences.of(17, "`r`: the register of the permutation, 0 to 5");
        Sentences.due("the first", x.reach(4, 0), 6);
        Sentences.due("the last", x.reach(33, 5), 1);
        Sentences.of(17, "Returns the number of factors, 0 for the identity");
        Sentences.due("of any registers", x.reach(63, 1), 0);
        Sentences.due("of itself", x.reach(2, 1), 0);
        Sentences.due("of no register", x.reach(0, 1), 0);
        Sentences.of(17, "NONE if it is no such product");
        Sentences.due("a reversal of shifts", x.reach(5, 5), NONE);
        Sentences.due("a shift of identities", x.reach(8 + 16, 0), NONE);
        Sentences.due("a shift of nothing", x.reach(0, 0), NONE);
        Sentences.of(17, "BAD if an argument is out of range");
        Sentences.outside("set", x, 0, 63, set -> x.reach(set, 0));
        Sentences.outside("r", x, 0, 5, r -> x.reach(1, r));
        Sentences.outside("r of no factors", x, 0, 5, r -> x.reach(0, r));
    }

    private static void promise18Factors() {
        Sentences.of(18, "the factors of which are, from the first one on, the smallest registers that are possible");
        TurningVerse x = of(4);
        Check.loadTurn(x, 1, "(34)");
        Check.loadTurn(x, 4, "(12)");
        Check.loadTurn(x, 5, "(12)");
        Check.loadTurn(x, 0, "(12)(34)");
        Sentences.due("either way round, the first", x.factor(50, 0, 0), 1);
        Sentences.due("either way round, the second", x.factor(50, 0, 1), 4);
        Sentences.due("not the shortest product otherwise", x.reach(50, 0), 2);
        Sentences.due("itself", x.factor(51, 0, 0), 0);
        Check.loadTurn(x, 4, "(134)");
        x.product(5, 4, 0);
        Sentences.due("greater one first, if it is not possible otherwise", x.factor(50, 0, 0), 5);
        Sentences.due("smaller one behind it", x.factor(50, 0, 1), 4);
    }

    private static void promise18Arguments() {
        TurningVerse x = turner(7);
        x.make(2, 3, 6);
        Sentences.of(18, "`set`: the set of the registers of the factors, as a bit mask, 0 to 63");
        Sentences.due("the first register", x.factor(1, 2, 0), 0);
        Sentences.due("the last register", x.factor(32, 5, 0), 5);
        Sentences.due("all registers", x.factor(63, 2, 0), 2);
        Sentences.of(18, "`r`: the register of the permutation, 0 to 5");
        Sentences.due("the first", x.factor(4, 0, 0), 2);
        Sentences.due("the last", x.factor(33, 5, 0), 5);
        Sentences.of(18, "`i`: the number of the factor, from 0 for the first one (the one that turns first)");
        Sentences.due("the last of 6", x.factor(1, 2, 5), 0);
        x.product(0, 5, 3);
        Sentences.due("the first", x.factor(33, 3, 0), 0);
        Sentences.due("the second", x.factor(33, 3, 1), 5);
        Sentences.of(18, "NONE if there is no such product, or not so many factors");
        Sentences.due("the seventh of 6", x.factor(1, 2, 6), NONE);
        Sentences.due("very far behind", x.factor(1, 2, Integer.MAX_VALUE), NONE);
        Sentences.due("the first of the identity", x.factor(63, 1, 0), NONE);
        Sentences.due("no such product", x.factor(5, 5, 0), NONE);
        Sentences.due("nothing of nothing", x.factor(0, 1, 0), NONE);
        Sentences.due("something of nothing", x.factor(0, 0, 0), NONE);
        Sentences.of(18, "BAD if set or r is out of range, or i is negative");
        Sentences.outside("set", x, 0, 63, set -> x.factor(set, 2, 0));
        Sentences.outside("r", x, 0, 5, r -> x.factor(1, r, 0));
        Sentences.refused("i -1", x, () -> x.factor(1, 2, -1), BAD);
        Sentences.refused("i the least", x, () -> x.factor(1, 2, Integer.MIN_VALUE), BAD);
        Sentences.refused("i -1 of the identity", x, () -> x.factor(1, 1, -1), BAD);
    }
}
