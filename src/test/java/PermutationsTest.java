/** Promises 8 to 18: permutations. */
public final class PermutationsTest {
    private static final int BAD = TurningVerse.BAD, NONE = TurningVerse.NONE;

    private PermutationsTest() {
    }

    public static void main(String[] args) {
        promise8Make();
        promise9Product();
        promise10Power();
        promise11Unrank();
        promise12Root();
        promise13At();
        promise14Turn();
        promise15Places();
        promise16Generated();
        promise17Reach();
        promise18Factor();
        Check.end("PermutationsTest");
    }

    private static void made(int n, int kind, int k, long lines) {
        TurningVerse x = new TurningVerse();
        x.setWords(n);
        x.make(4, 2, 0);
        int number = x.make(4, kind, k);
        String what = "8: make " + kind + " " + k + " of " + n;
        Check.same(what, Check.lines(x, 4), lines);
        Check.same(what + ", number", number, x.turn(4, 0));
        Check.same(what + ", a change", x.told(5), 3);
    }

    private static void promise8Make() {
        made(5, 0, 3, 1234);
        made(2, 1, 0, 10);
        made(5, 1, 4, 40312);
        made(6, 1, 0, 504132);
        made(7, 1, 0, 6051423);
        made(5, 2, 0, 43210);
        made(5, 3, 0, 1234);
        made(5, 3, 2, 23401);
        made(5, 3, 4, 40123);
        made(5, 4, 0, 1234);
        made(5, 4, 1, 10234);
        made(5, 4, 4, 41230);
        made(2, 5, 0, 1);
        made(5, 5, 0, 2413);
        made(6, 5, 0, 24135);
        made(7, 5, 6, 246135);
        TurningVerse x = new TurningVerse();
        Check.same("8: register -1", x.make(-1, 0, 0), BAD);
        Check.same("8: register 6", x.make(6, 0, 0), BAD);
        Check.same("8: kind -1", x.make(0, -1, 0), BAD);
        Check.same("8: kind 6", x.make(0, 6, 0), BAD);
        Check.same("8: k -1", x.make(0, 0, -1), BAD);
        Check.same("8: k 6 of 6, though it does not matter", x.make(0, 2, 6), BAD);
        Check.same("8: an error is no change", x.told(5), 0);
        Check.same("8: sestina", x.make(0, 1, 0), 619);
    }

    private static void promise9Product() {
        TurningVerse x = new TurningVerse();
        x.setWords(3);
        Check.loadTurn(x, 0, "(12)");
        Check.loadTurn(x, 1, "(23)");
        // p = 102, q = 021: line i of the product is given p(q(i)), which is 1 2 0.
        Check.same("9: p, q", x.product(0, 1, 2), 3);
        Check.same("9: lines of p, q", Check.lines(x, 2), 120);
        Check.same("9: q, p", x.product(1, 0, 3), 4);
        Check.same("9: lines of q, p", Check.lines(x, 3), 201);
        Check.same("9: into a factor", x.product(0, 1, 0), 3);
        Check.same("9: into both", x.product(0, 0, 0), 4);
        Check.same("9: changes", x.told(5), 7);
        Check.same("9: a", x.product(-1, 0, 0), BAD);
        Check.same("9: b", x.product(0, 6, 0), BAD);
        Check.same("9: to", x.product(0, 0, 6), BAD);
        Check.same("9: to below", x.product(0, 0, -1), BAD);
        Check.same("9: no changes", x.told(5), 7);
        Check.same("9: nothing written", Check.lines(x, 0), 201);
    }

    private static void promise10Power() {
        TurningVerse x = new TurningVerse();
        x.setWords(5);
        x.make(0, 3, 1);
        Check.same("10: power 0", x.power(0, 0, 1), 0);
        x.power(0, 2, 1);
        Check.same("10: power 2", Check.lines(x, 1), 23401);
        x.power(0, -1, 1);
        Check.same("10: power -1", Check.lines(x, 1), 40123);
        x.power(0, -3, 1);
        Check.same("10: power -3", Check.lines(x, 1), 23401);
        x.power(0, 999999, 1);
        Check.same("10: power 999999", Check.lines(x, 1), 40123);
        Check.same("10: power 1000000", x.power(0, 1000000, 1), 0);
        Check.same("10: power -1000000", x.power(0, -1000000, 1), 0);
        x.power(0, -999999, 0);
        Check.same("10: power -999999 into itself", Check.lines(x, 0), 12340);
        int changes = x.told(5);
        x.undo();
        Check.same("10: power 1000001", x.power(0, 1000001, 1), BAD);
        Check.same("10: power -1000001", x.power(0, -1000001, 1), BAD);
        Check.same("10: power of least int", x.power(0, Integer.MIN_VALUE, 1), BAD);
        Check.same("10: a", x.power(6, 1, 1), BAD);
        Check.same("10: to", x.power(0, 1, -1), BAD);
        Check.same("10: no changes", x.told(5), changes - 1);
        Check.same("10: power 1", x.power(0, 1, 2), x.turn(0, 0));
    }

    private static void promise11Unrank() {
        TurningVerse x = new TurningVerse();
        x.setWords(3);
        long[] lines = {12, 21, 102, 120, 201, 210};
        int[] orders = {1, 2, 2, 3, 3, 2};
        for (int k = 0; k < 6; k++) {
            Check.same("11: order of " + k, x.unrank(2, k), orders[k]);
            Check.same("11: lines of " + k, Check.lines(x, 2), lines[k]);
        }
        Check.same("11: changes", x.told(5), 7);
        Check.same("11: 6 of 3", x.unrank(2, 6), BAD);
        Check.same("11: -1", x.unrank(2, -1), BAD);
        Check.same("11: register", x.unrank(6, 0), BAD);
        Check.same("11: no changes", x.told(5), 7);
        x.setWords(7);
        for (int k = 0; k < 5040; k += 97) {
            // Further calls than 512 would be free, so these are on an object of their own.
            TurningVerse y = new TurningVerse();
            y.setWords(7);
            y.unrank(0, k);
            Check.same("11: number of " + k, y.turn(0, 0), k);
        }
        Check.same("11: 5039 of 7", x.unrank(0, 5039), 2);
        Check.same("11: 5040 of 7", x.unrank(0, 5040), BAD);
        Check.loadTurn(x, 1, "(1234)(567)");
        Check.same("11: order 12", x.unrank(0, x.turn(1, 0)), 12);
        x.setWords(2);
        Check.same("11: 1 of 2", x.unrank(0, 1), 2);
        Check.same("11: 2 of 2", x.unrank(0, 2), BAD);
    }

    private static void promise12Root() {
        TurningVerse x = new TurningVerse();
        x.setWords(4);
        Check.same("12: root 1 of the identity", x.root(0, 1, 1), 0);
        Check.same("12: root 2 of the identity", x.root(0, 2, 1), 0);
        Check.loadTurn(x, 0, "(12)(34)");
        // Of the two cycles (1324) and (1423) the one that gives line 0 the line 2 is the first.
        x.root(0, 2, 1);
        Check.same("12: root 2 of (12)(34)", Check.lines(x, 1), 2310);
        Check.loadTurn(x, 0, "(12)");
        int changes = x.told(5);
        Check.same("12: root 2 of (12)", x.root(0, 2, 1), NONE);
        Check.same("12: NONE is a change", x.told(5), changes + 1);
        Check.same("12: nothing is written", Check.lines(x, 1), 2310);
        Check.same("12: root 3 of (12)", x.root(0, 3, 0), 6);
        Check.same("12: root 12 of (12)", x.root(0, 12, 1), NONE);
        Check.same("12: root 11 of (12) into itself", x.root(0, 11, 0), 6);
        changes = x.told(5);
        Check.same("12: root 0", x.root(0, 0, 1), BAD);
        Check.same("12: root 13", x.root(0, 13, 1), BAD);
        Check.same("12: a", x.root(-1, 1, 1), BAD);
        Check.same("12: to", x.root(0, 1, 6), BAD);
        Check.same("12: no change", x.told(5), changes);
        x.setWords(7);
        Check.loadTurn(x, 0, "(1234567)");
        Check.same("12: root 7 of a long cycle", x.root(0, 7, 1), NONE);
        x.root(0, 2, 1);
        x.power(1, 2, 2);
        Check.same("12: root 2 of a long cycle", x.turn(2, 0), x.turn(0, 0));
    }

    private static void promise13At() {
        TurningVerse x = new TurningVerse();
        x.setWords(7);
        x.make(5, 1, 0);
        int[] lines = {6, 0, 5, 1, 4, 2, 3};
        for (int i = 0; i < 7; i++) {
            Check.same("13: line " + i, x.at(5, i), lines[i]);
            Check.same("13: line " + i + " of another register", x.at(0, i), i);
        }
        Check.same("13: line 7", x.at(5, 7), BAD);
        Check.same("13: line -1", x.at(5, -1), BAD);
        Check.same("13: register 6", x.at(6, 0), BAD);
        Check.same("13: register -1", x.at(-1, 0), BAD);
        x.setWords(2);
        Check.same("13: line 2 of 2", x.at(0, 2), BAD);
        Check.same("13: no change", x.told(5), 3);
    }

    private static void properties(int n, String text, int... due) {
        TurningVerse x = new TurningVerse();
        x.setWords(n);
        Check.loadTurn(x, 0, text);
        for (int what = 0; what < due.length; what++) {
            Check.same("14: turn " + what + " of " + text, x.turn(0, what), due[what]);
        }
    }

    private static void promise14Turn() {
        properties(6, "", 0, 1, 6, 6, 1, 0, 6);
        properties(7, "", 0, 1, 7, 7, 1, 0, 7);
        properties(2, "(12)", 1, 2, 1, 0, 2, 1, 8);
        properties(7, "(1234567)", 873, 7, 1, 0, 7, 0, 262144);
        properties(7, "(1234)(567)", 867, 12, 2, 0, 4, 1, 512 + 64);
        properties(6, "(123)(45)", 146, 6, 3, 1, 3, 1, 64 + 8 + 1);
        properties(6, "(12)(34)(56)", 127, 2, 3, 0, 2, 1, 24);
        properties(7, "(12)(34)", 744, 2, 5, 3, 2, 0, 19);
        TurningVerse x = new TurningVerse();
        Check.same("14: what -1", x.turn(0, -1), BAD);
        Check.same("14: what 7", x.turn(0, 7), BAD);
        Check.same("14: register -1", x.turn(-1, 0), BAD);
        Check.same("14: register 6", x.turn(6, 0), BAD);
        Check.same("14: no change", x.told(5), 0);
    }

    private static void promise15Places() {
        TurningVerse x = new TurningVerse();
        x.make(1, 3, 1);
        // The word of line 0 comes to line 5, as line 5 is given line 0; then to 4, 3 and so on.
        Check.same("15: not turned", x.places(1, 0, 0), 1);
        Check.same("15: once", x.places(1, 0, 1), 1 + 32);
        Check.same("15: twice", x.places(1, 0, 2), 1 + 32 + 16);
        Check.same("15: from line 2", x.places(1, 2, 1), 4 + 2);
        Check.same("15: round", x.places(1, 3, 100), 63);
        Check.same("15: identity", x.places(0, 5, 100), 32);
        Check.same("15: k 101", x.places(1, 0, 101), BAD);
        Check.same("15: k -1", x.places(1, 0, -1), BAD);
        Check.same("15: line 6", x.places(1, 6, 1), BAD);
        Check.same("15: line -1", x.places(1, -1, 1), BAD);
        Check.same("15: register", x.places(6, 0, 1), BAD);
        Check.same("15: register below", x.places(-1, 0, 1), BAD);
        Check.same("15: no change", x.told(5), 1);
    }

    private static void promise16Generated() {
        TurningVerse x = new TurningVerse();
        x.setWords(7);
        x.make(0, 3, 1);
        x.make(1, 4, 1);
        x.make(2, 2, 0);
        Check.loadTurn(x, 3, "(123)");
        Check.loadTurn(x, 4, "(12)(34)");
        Check.same("16: nothing", x.generated(0), 1);
        Check.same("16: shift", x.generated(1), 7);
        Check.same("16: exchange", x.generated(2), 2);
        Check.same("16: shift and exchange", x.generated(3), 5040);
        Check.same("16: shift and reversal", x.generated(5), 14);
        Check.same("16: shift and (123)", x.generated(9), 2520);
        Check.same("16: (123) and (12)(34)", x.generated(24), 12);
        Check.same("16: identity", x.generated(32), 1);
        Check.same("16: all", x.generated(63), 5040);
        Check.same("16: 64", x.generated(64), BAD);
        Check.same("16: -1", x.generated(-1), BAD);
        Check.same("16: no change", x.told(5), 6);
    }

    private static TurningVerse walker() {
        TurningVerse x = new TurningVerse();
        x.setWords(7);
        x.make(0, 3, 1);
        x.make(1, 3, 6);
        x.make(2, 4, 1);
        x.make(3, 3, 3);
        x.make(4, 2, 0);
        return x;
    }

    private static void promise17Reach() {
        TurningVerse x = walker();
        Check.same("17: shift by 3", x.reach(1, 3), 3);
        Check.same("17: shift by 3, other way round", x.reach(2, 3), 4);
        Check.same("17: shift by 3, both ways", x.reach(3, 3), 3);
        Check.same("17: itself", x.reach(15, 3), 1);
        Check.same("17: identity", x.reach(63, 5), 0);
        Check.same("17: identity of nothing", x.reach(0, 5), 0);
        Check.same("17: something of nothing", x.reach(0, 0), NONE);
        Check.same("17: exchange of shifts", x.reach(3, 2), NONE);
        Check.same("17: set 64", x.reach(64, 0), BAD);
        Check.same("17: set -1", x.reach(-1, 0), BAD);
        Check.same("17: register", x.reach(1, 6), BAD);
        Check.same("17: register below", x.reach(1, -1), BAD);
        Check.same("17: no change", x.told(5), 6);
        int factors = x.reach(7, 4);
        Check.same("17: the factors are a way", product(x, 7, 4, factors), x.turn(4, 0));
    }

    /** The number of the product of all factors. */
    private static long product(TurningVerse x, int set, int r, int factors) {
        TurningVerse y = walker();
        for (int i = 0; i < factors; i++) {
            y.product(5, x.factor(set, r, i), 5);
        }
        return y.turn(5, 0);
    }

    private static void promise18Factor() {
        TurningVerse x = new TurningVerse();
        x.setWords(3);
        Check.loadTurn(x, 1, "(12)");
        Check.loadTurn(x, 4, "(23)");
        x.product(1, 4, 0);
        Check.same("18: first factor", x.factor(18, 0, 0), 1);
        Check.same("18: second factor", x.factor(18, 0, 1), 4);
        Check.same("18: no third factor", x.factor(18, 0, 2), NONE);
        Check.same("18: greatest int", x.factor(18, 0, Integer.MAX_VALUE), NONE);
        // (13) is both (12)(23)(12) and (23)(12)(23).
        Check.loadTurn(x, 5, "(13)");
        Check.same("18: smallest first", x.factor(18, 5, 0), 1);
        Check.same("18: then", x.factor(18, 5, 1), 4);
        Check.same("18: at last", x.factor(18, 5, 2), 1);
        Check.loadTurn(x, 3, "(23)");
        Check.same("18: smaller of two equal registers", x.factor(26, 5, 1), 3);
        Check.same("18: not in the set", x.factor(18, 3, 0), 4);
        Check.same("18: no such product", x.factor(2, 3, 0), NONE);
        Check.same("18: identity", x.factor(63, 2, 0), NONE);
        Check.same("18: i -1", x.factor(18, 0, -1), BAD);
        Check.same("18: i -1 without a product", x.factor(0, 0, -1), BAD);
        Check.same("18: set 64", x.factor(64, 0, 0), BAD);
        Check.same("18: set -1", x.factor(-1, 0, 0), BAD);
        Check.same("18: register", x.factor(18, 6, 0), BAD);
        Check.same("18: register below", x.factor(18, -1, 0), BAD);
        Check.same("18: no change", x.told(5), 6);
    }
}
