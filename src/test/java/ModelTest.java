import java.util.ArrayList;
import java.util.Collections;
import java.util.List;
import java.util.Random;

/** Long runs of calls, the same for each start, on TurningVerse and on Model, which have to agree. */
public final class ModelTest {
    private static final int MOST_CALLS = 512;
    private static final String SIGNS = "abcdefgh//;;,,(())1234567890AZ`{!~";

    private final Random dice;
    private final int seed;
    private final TurningVerse x = new TurningVerse();
    private final Model m = new Model();
    private int calls = 0;
    private int bestLeft = 2;

    private ModelTest(int seed) {
        this.seed = seed;
        dice = new Random(seed);
    }

    public static void main(String[] args) {
        int runs = args.length > 0 ? Integer.parseInt(args[0]) : 400;
        for (int seed = 0; seed < runs && !Check.hasFailed(); seed++) {
            new ModelTest(seed).run();
        }
        Check.end("ModelTest");
    }

    private void run() {
        // Small numbers of words more often: the model is slow for many.
        int[] sizes = {2, 3, 3, 4, 4, 4, 5, 5, 5, 6, 6, 7};
        int n = sizes[seed % sizes.length];
        due("setWords " + n, x.setWords(n), m.setWords(n));
        while (calls < MOST_CALLS - 90 && !Check.hasFailed()) {
            step();
            if (dice.nextInt(3) == 0) {
                due("digest", x.digest(), m.digest());
            }
        }
    }

    private void due(String call, long got, long want) {
        calls++;
        Check.same("run " + seed + ", call " + calls + ": " + call, got, want);
    }

    /** From 0 to count - 1 nearly always. */
    private int below(int count) {
        int k = dice.nextInt(150);
        if (k == 0) {
            return -1;
        }
        if (k == 1) {
            return count;
        }
        if (k == 2) {
            return dice.nextBoolean() ? Integer.MIN_VALUE : Integer.MAX_VALUE;
        }
        return dice.nextInt(Math.max(1, count));
    }

    private int register() {
        return below(6);
    }

    private int line() {
        return below(m.told(0));
    }

    private int stanza() {
        return below(m.told(1));
    }

    private void step() {
        switch (dice.nextInt(9)) {
            case 0:
                words();
                break;
            case 1:
                texts();
                break;
            case 2:
            case 3:
                permutations();
                break;
            case 4:
            case 5:
                poems();
                break;
            case 6:
                following();
                break;
            case 7:
                reading();
                break;
            default:
                undoing();
        }
    }

    private void words() {
        int k = dice.nextInt(40);
        if (k == 0) {
            int n = 1 + dice.nextInt(6);
            due("setWords " + n, x.setWords(n), m.setWords(n));
        } else if (k < 12) {
            int w = line();
            int v = below(4);
            due("setSound " + w + " " + v, x.setSound(w, v), m.setSound(w, v));
        }
    }

    private void texts() {
        int k = dice.nextInt(20);
        if (k == 0) {
            int c = 25 + dice.nextInt(110);
            due("type " + c, x.type(c), m.type(c));
        } else if (k < 6) {
            write(spoiled(poemText()));
            due("loadPoem", x.loadPoem(), m.loadPoem());
        } else if (k < 12) {
            write(spoiled(turnText()));
            int r = register();
            due("loadTurn " + r, x.loadTurn(r), m.loadTurn(r));
        }
    }

    private void write(String text) {
        due("clear", x.clear(), m.clear());
        for (int i = 0; i < text.length(); i++) {
            char c = text.charAt(i);
            due("type " + c, x.type(c), m.type(c));
        }
    }

    private String spoiled(String text) {
        StringBuilder t = new StringBuilder(text);
        for (int k = dice.nextInt(6) - 3; k > 0; k--) {
            int i = dice.nextInt(t.length() + 1);
            char sign = SIGNS.charAt(dice.nextInt(SIGNS.length()));
            int how = dice.nextInt(4);
            if (how == 0) {
                t.insert(i, sign);
            } else if (how == 1 && i < t.length()) {
                t.setCharAt(i, sign);
            } else if (how == 2 && i < t.length()) {
                t.deleteCharAt(i);
            } else if (how == 3) {
                t.setLength(i);
            }
        }
        return t.toString();
    }

    private String poemText() {
        int n = dice.nextInt(4) == 0 ? 1 + dice.nextInt(6) : m.told(0);
        StringBuilder t = new StringBuilder();
        int stanzas = 1 + dice.nextInt(dice.nextInt(4) == 0 ? 9 : 3);
        for (int s = 0; s < stanzas; s++) {
            t.append(s > 0 ? "/" : "").append(row(n, n));
        }
        if (dice.nextBoolean()) {
            int lines = 1 + dice.nextInt(dice.nextInt(8) == 0 ? 5 : 4);
            for (int line = 0; line < lines; line++) {
                t.append(line == 0 ? ';' : ',').append(row(n, 1 + dice.nextInt(3)));
            }
        }
        return t.toString();
    }

    private String row(int n, int length) {
        List<Integer> words = Model.identity(n);
        Collections.shuffle(words, dice);
        StringBuilder t = new StringBuilder();
        for (int i = 0; i < length; i++) {
            boolean any = i >= n || dice.nextInt(9) == 0;
            t.append((char) ('a' + (any ? dice.nextInt(n) : words.get(i))));
        }
        return t.toString();
    }

    private String turnText() {
        int n = m.told(0);
        List<Integer> lines = new ArrayList<>(Model.identity(n));
        Collections.shuffle(lines, dice);
        StringBuilder t = new StringBuilder();
        boolean open = false;
        for (int i = 0; i < dice.nextInt(n + 1); i++) {
            if (!open) {
                t.append('(');
                open = true;
            }
            t.append(lines.get(i) + 1);
            if (dice.nextInt(3) == 0) {
                t.append(')');
                open = false;
            }
        }
        return t.append(open ? ")" : "").toString();
    }

    private void permutations() {
        int a = register();
        int b = register();
        int to = register();
        int set = below(64);
        int k = below(13);
        switch (dice.nextInt(11)) {
            case 0:
                int kind = below(6);
                int line = line();
                due("make " + a + " " + kind + " " + line, x.make(a, kind, line), m.make(a, kind, line));
                break;
            case 1:
                due("product " + a + " " + b + " " + to, x.product(a, b, to), m.product(a, b, to));
                break;
            case 2:
                int e = dice.nextInt(3) == 0 ? dice.nextInt(2000009) - 1000004 : dice.nextInt(25) - 12;
                due("power " + a + " " + e + " " + to, x.power(a, e, to), m.power(a, e, to));
                break;
            case 3:
            case 4:
                int number = below(Model.all(m.told(0)).size());
                due("unrank " + a + " " + number, x.unrank(a, number), m.unrank(a, number));
                break;
            case 5:
                due("root " + a + " " + k + " " + to, x.root(a, k, to), m.root(a, k, to));
                break;
            case 6:
                int what = below(7);
                due("turn " + a + " " + what, x.turn(a, what), m.turn(a, what));
                break;
            case 7:
                int i = line();
                int times = dice.nextBoolean() ? below(9) : below(101);
                due("places " + a + " " + i + " " + times, x.places(a, i, times), m.places(a, i, times));
                break;
            case 8:
                due("generated " + set, x.generated(set), m.generated(set));
                break;
            case 9:
                due("reach " + set + " " + a, x.reach(set, a), m.reach(set, a));
                break;
            default:
                due("factor " + set + " " + a + " " + k, x.factor(set, a, k), m.factor(set, a, k));
        }
    }

    private void poems() {
        int s = stanza();
        int i = line();
        int w = line();
        int r = register();
        switch (dice.nextInt(8)) {
            case 0:
            case 1:
            case 2:
                due("add " + r, x.add(r), m.add(r));
                break;
            case 3:
                if (dice.nextInt(3) == 0) {
                    due("drop", x.drop(), m.drop());
                }
                break;
            case 4:
                due("put " + s + " " + i + " " + w, x.put(s, i, w), m.put(s, i, w));
                break;
            default:
                boolean on = dice.nextInt(3) == 0;
                due("lock " + s + " " + i + " " + on, x.lock(s, i, on), m.lock(s, i, on));
        }
    }

    private void following() {
        int r = register();
        switch (dice.nextInt(6)) {
            case 0:
                due("common " + r, x.common(r), m.common(r));
                break;
            case 1:
                due("follows " + r, x.follows(r), m.follows(r));
                break;
            case 2:
                due("cost " + r, x.cost(r), m.cost(r));
                break;
            case 3:
                due("mend " + r, x.mend(r), m.mend(r));
                break;
            default:
                // The model is very slow here for many words.
                if (m.told(0) < 6 || m.told(0) == 6 && bestLeft-- > 0) {
                    due("best " + r, x.best(r), m.best(r));
                }
        }
    }

    private void reading() {
        int s = stanza();
        int i = line();
        int r = register();
        switch (dice.nextInt(10)) {
            case 0:
                due("at " + r + " " + i, x.at(r, i), m.at(r, i));
                break;
            case 1:
                due("word " + s + " " + i, x.word(s, i), m.word(s, i));
                break;
            case 2:
                due("proper " + s, x.proper(s), m.proper(s));
                break;
            case 3:
                due("turning " + s, x.turning(s), m.turning(s));
                break;
            case 4:
                int what = below(4);
                due("tail " + what, x.tail(what), m.tail(what));
                break;
            case 5:
                int line = below(4);
                int k = below(3);
                due("tailWord " + line + " " + k, x.tailWord(line, k), m.tailWord(line, k));
                break;
            case 6:
                due("scheme " + s, x.scheme(s), m.scheme(s));
                break;
            case 7:
                due("schemes " + s + " " + r, x.schemes(s, r), m.schemes(s, r));
                break;
            case 8:
                due("coupled " + s, x.coupled(s), m.coupled(s));
                break;
            default:
                int number = below(6);
                due("told " + number, x.told(number), m.told(number));
        }
    }

    private void undoing() {
        if (dice.nextInt(4) == 0) {
            for (int k = dice.nextInt(dice.nextInt(5) == 0 ? 10 : 3); k > 0; k--) {
                due("undo", x.undo(), m.undo());
            }
        }
    }
}
