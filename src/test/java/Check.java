/** Counts the answers that are as due, and prints those that are not. */
final class Check {
    private static int passed = 0;
    private static int failed = 0;

    private Check() {
    }

    static void same(String what, long got, long due) {
        if (got == due) {
            passed++;
        } else {
            failed++;
            System.out.println(what + ": answered " + got + ", due is " + due);
        }
    }

    static boolean hasFailed() {
        return failed > 0;
    }

    /** Ends the program, with exit code 1 if an answer was not as due. */
    static void end(String test) {
        System.out.println(test + ": " + passed + " answers as due, " + failed + " not");
        System.exit(failed == 0 ? 0 : 1);
    }

    /** Replaces the text in the buffer. */
    static void write(TurningVerse x, String text) {
        x.clear();
        for (int i = 0; i < text.length(); i++) {
            same("type " + text.charAt(i) + " of " + text, x.type(text.charAt(i)), i + 1);
        }
    }

    static int loadPoem(TurningVerse x, String text) {
        write(x, text);
        return x.loadPoem();
    }

    static int loadTurn(TurningVerse x, int r, String text) {
        write(x, text);
        return x.loadTurn(r);
    }

    /** The lines that a permutation gives, as digits from the first line on. */
    static long lines(TurningVerse x, int r) {
        long digits = 0;
        for (int i = 0; i < x.told(0); i++) {
            digits = digits * 10 + x.at(r, i);
        }
        return digits;
    }

    /** The words of a stanza, as digits from the first line on. */
    static long words(TurningVerse x, int s) {
        long digits = 0;
        for (int i = 0; i < x.told(0); i++) {
            digits = digits * 10 + x.word(s, i);
        }
        return digits;
    }
}
