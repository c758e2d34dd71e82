import java.util.ArrayList;
import java.util.List;

/** Promises 36 to 38: the whole; and what the terms say of changes. */
public final class WholeTest {
    private static final int BAD = TurningVerse.BAD;

    private WholeTest() {
    }

    public static void main(String[] args) {
        promise36Told();
        promise37Undo();
        promise37DropsTheOldest();
        promise37RestoresAll();
        promise38Digest();
        promise38DigestSeesAll();
        Check.end("WholeTest");
    }

    private static void promise36Told() {
        TurningVerse x = new TurningVerse();
        Check.loadPoem(x, "abcd/aabb/dcba;a");
        x.lock(0, 1, true);
        x.lock(1, 3, true);
        x.lock(1, 2, true);
        int[] due = {4, 3, 2, 3, 16, 4};
        for (int what = 0; what < 6; what++) {
            Check.same("36: told " + what, x.told(what), due[what]);
        }
        Check.same("36: told 6", x.told(6), BAD);
        Check.same("36: told -1", x.told(-1), BAD);
        for (int k = 0; k < 12; k++) {
            x.setSound(0, 0);
        }
        Check.same("36: not more than eight", x.told(5), 8);
    }

    private static void promise37Undo() {
        TurningVerse x = new TurningVerse();
        Check.same("37: nothing", x.undo(), TurningVerse.STATE);
        Check.loadPoem(x, "abc/bca;ab");
        x.make(2, 3, 1);
        x.setSound(1, 3);
        x.lock(1, 1, true);
        List<Long> seen = new ArrayList<>();
        seen.add(x.digest());
        x.put(1, 1, 0);
        seen.add(x.digest());
        x.mend(2);
        seen.add(x.digest());
        x.setWords(3);
        seen.add(x.digest());
        x.undo();
        for (int k = 2; k >= 0; k--) {
            Check.same("37: state " + k, x.digest(), seen.get(k));
            Check.same("37: left " + k, x.undo(), 3 + k);
        }
        Check.same("37: not locked any more", x.told(3), 0);
        Check.same("37: the text stays", x.told(4), 10);
        Check.same("37: sound", x.undo(), 2);
        Check.same("37: register", x.undo(), 1);
        Check.same("37: poem", x.undo(), 0);
        Check.same("37: at first", x.told(0), 6);
        Check.same("37: no stanza", x.told(1), 0);
        Check.same("37: nothing left", x.undo(), TurningVerse.STATE);
        x.make(0, 2, 0);
        Check.same("37: one again", x.undo(), 0);
    }

    private static void promise37DropsTheOldest() {
        TurningVerse x = new TurningVerse();
        for (int k = 1; k <= 21; k++) {
            x.unrank(0, k);
        }
        for (int k = 20; k >= 13; k--) {
            Check.same("37: left at " + k, x.undo(), k - 13);
            Check.same("37: back at " + k, x.turn(0, 0), k);
        }
        Check.same("37: the older ones are gone", x.undo(), TurningVerse.STATE);
        Check.same("37: and it stays", x.turn(0, 0), 13);
    }

    private static void promise37RestoresAll() {
        TurningVerse x = new TurningVerse();
        Check.loadPoem(x, "abc/bca/cab/abc/bca/cab/abc/bcb;ab,b,cb,aab");
        for (int r = 0; r < 5; r++) {
            x.unrank(r, r + 1);
        }
        x.setSound(2, 1);
        x.lock(7, 2, true);
        long before = x.digest();
        Check.write(x, "gfedcba;g");
        x.loadPoem();
        x.unrank(5, 4000);
        x.undo();
        x.undo();
        Check.write(x, "abc/bca/cab/abc/bca/cab/abc/bcb;ab,b,cb,aab");
        // The oldest states are gone: there are fewer remembered ones than before.
        Check.same("37: eight had been remembered", x.told(5), 6);
        x.setSound(2, 1);
        x.setSound(2, 1);
        Check.same("37: all is as before", x.digest(), before);
        Check.same("37: the lock too", x.lock(7, 2, false), 1);
        Check.same("37: and the tail", x.tailWord(3, 2), 1);
    }

    private static long hash(int... values) {
        long h = 12674;
        for (int v : values) {
            h = 31 * h + v;
        }
        return h;
    }

    private static void promise38Digest() {
        TurningVerse x = new TurningVerse();
        Check.loadPoem(x, "ab/ba/aa;b,ab");
        x.make(3, 2, 0);
        x.lock(1, 0, true);
        Check.same("38: a small poem", x.digest(), hash(
                2, 3, 2, 1, 13, 3,
                0, 1,
                0, 1, 2, 2, 1, 0, 2, 0, 1, 2, 2, 1, 0, 2, 0, 1, 2, 2, 1, 0, 2,
                1, 2, 1, 0, 2, 1, 8, 0, 1, 2, 2, 1, 0, 2, 0, 1, 2, 2, 1, 0, 2,
                0, 1, 0, 0, 1, 1,
                1, 0, 1, 0, -9, 1,
                0, 0, 0, 0, -9, 0,
                0, 0, 0, 0, 0, 0,
                2, 3, 0, 0,
                1, 0, 1));
        Check.same("38: no change", x.told(5), 3);
        TurningVerse y = new TurningVerse();
        y.setWords(2);
        y.undo();
        Check.same("38: as if nothing had been", y.digest(), new TurningVerse().digest());
    }

    /** Each of these differs from the others in one thing alone. */
    private static void promise38DigestSeesAll() {
        List<Long> seen = new ArrayList<>();
        for (int k = 0; k < 9; k++) {
            TurningVerse x = new TurningVerse();
            Check.loadPoem(x, k == 1 ? "abc/cba;ac" : "abc/cba;ab");
            x.setSound(0, k == 2 ? 1 : 0);
            x.unrank(k == 3 ? 1 : 0, k == 4 ? 1 : 2);
            x.lock(k == 5 ? 1 : 0, k == 6 ? 1 : 0, true);
            x.put(1, 1, k == 7 ? 2 : 1);
            if (k == 8) {
                x.type('a');
            }
            seen.add(x.digest());
            Check.same("38: seen first at " + k, seen.indexOf(x.digest()), k);
        }
    }
}
