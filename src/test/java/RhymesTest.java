/** Promises 33 to 35: rhymes. */
public final class RhymesTest {
    private static final int BAD = TurningVerse.BAD;

    private RhymesTest() {
    }

    public static void main(String[] args) {
        promise33Scheme();
        promise34Schemes();
        promise35Coupled();
        Check.end("RhymesTest");
    }

    private static TurningVerse poem(String text) {
        TurningVerse x = new TurningVerse();
        Check.loadPoem(x, text);
        return x;
    }

    private static void promise33Scheme() {
        TurningVerse x = poem("abcdefg/aaaaaaa/gfedcba/aebfbea");
        // Sounds of a to g: 0 1 2 3 0 1 2.
        Check.same("33: 0123012", x.scheme(0), 22647);
        Check.same("33: all alike", x.scheme(1), 0);
        // 2 1 0 3 2 1 0: lines 0 1 2 3 0 1 2.
        Check.same("33: reversed", x.scheme(2), 22647);
        // 0 0 1 1 1 0 0: lines 0 0 2 2 2 0 0.
        Check.same("33: not proper", x.scheme(3), 2 * 2401 + 2 * 343 + 2 * 49);
        Check.same("33: stanza 4", x.scheme(4), BAD);
        Check.same("33: stanza -1", x.scheme(-1), BAD);
        Check.same("33: no change", x.told(5), 1);
        x.setWords(4);
        x.add(0);
        Check.same("33: 0123", x.scheme(0), 66);
        x.setSound(3, 1);
        Check.same("33: 0121", x.scheme(0), 64);
    }

    private static void promise34Schemes() {
        TurningVerse x = poem("abc/aab");
        x.make(1, 3, 1);
        x.setSound(1, 0);
        // 0 0 2, 0 2 0, 2 0 0 have the schemes 002, 010, 011.
        Check.same("34: three", x.schemes(0, 1), 3);
        Check.same("34: itself alone", x.schemes(0, 0), 1);
        x.setSound(2, 0);
        Check.same("34: all alike", x.schemes(0, 1), 1);
        Check.same("34: stanza 2", x.schemes(2, 0), BAD);
        Check.same("34: stanza -1", x.schemes(-1, 0), BAD);
        Check.same("34: register 6", x.schemes(0, 6), BAD);
        Check.same("34: register -1", x.schemes(0, -1), BAD);
        Check.same("34: changes", x.told(5), 4);
        x = poem("abcdefg");
        Check.loadTurn(x, 0, "(1234)(567)");
        x.setSound(1, 0);
        x.setSound(2, 0);
        x.setSound(3, 1);
        x.setSound(4, 0);
        x.setSound(5, 0);
        x.setSound(6, 1);
        // The odd sound is at one of four lines of the first cycle, and at one of three of the second.
        Check.same("34: twelve", x.schemes(0, 0), 12);
        Check.same("34: two alike, turned back and forth", poem("abcdef").schemes(0, 0), 1);
    }

    private static void promise35Coupled() {
        Check.same("35: all sounds differ", poem("dbca").coupled(0), 0);
        // Sounds 0 1 0: the first order that has the two beside each other is 0 2 1.
        TurningVerse x = poem("abc/bca/aba");
        x.setSound(2, 0);
        Check.same("35: aba", x.coupled(0), 1);
        // Sounds 1 0 0.
        Check.same("35: baa", x.coupled(1), 0);
        Check.same("35: not proper", x.coupled(2), 1);
        Check.same("35: stanza 3", x.coupled(3), BAD);
        Check.same("35: stanza -1", x.coupled(-1), BAD);
        Check.same("35: no change", x.told(5), 2);
        // Sounds 0 1 2 3 0 1 2: lines 0 4 1 5 2 6 3, which has the number 0 + 3 * 120 + 0 + 2 * 6 + 0 + 1.
        Check.same("35: seven words", poem("abcdefg").coupled(0), 373);
    }
}
