import java.lang.reflect.Method;
import java.util.ArrayList;
import java.util.Arrays;
import java.util.HashMap;
import java.util.List;
import java.util.Map;

/**
 * Each method in several states, with each combination of arguments that lie at the edges of what is taken
 * or just beyond them, or are as small or as great as can be: Model tells the answers, a refused call
 * leaves all as it was, with all that undo() would bring back, and a change records one state.
 */
public final class GridTest {
    /** How a call acts, its name, and what its arguments are. */
    private static final String[] CALLS = {
        "change setWords size", "change setSound line sound", "text type byte", "text clear", "change loadPoem",
        "change loadTurn register", "change make register kind line", "change product register register register",
        "change power register power register", "change unrank register number", "change root register root register",
        "read at register line", "read turn register property", "read places register line turns",
        "read generated set", "read reach set register", "read factor set register factor", "change add register",
        "change drop", "change put stanza line line", "change lock stanza line switch", "read word stanza line",
        "read proper stanza", "read turning stanza", "change common register", "read follows register",
        "read cost register", "change mend register", "change best register", "read tail four",
        "read tailWord tailLine tailPlace", "read scheme stanza", "read schemes stanza register",
        "read coupled stanza", "read told told", "undo undo", "read digest",
    };
    private static final Map<String, Method> METHODS = new HashMap<>();

    /** The same object twice. */
    private static final class Pair {
        final TurningVerse x = new TurningVerse();
        final Model m = new Model();
    }

    /** Brings a new pair into a state. */
    private interface Start {
        void bring(Pair pair) throws ReflectiveOperationException;
    }

    private GridTest() {
    }

    public static void main(String[] args) throws ReflectiveOperationException {
        grid("new", p -> { });
        grid("full", GridTest::full);
        grid("spoiled", GridTest::spoiled);
        grid("tail alone", GridTest::tailAlone);
        grid("hopeless", GridTest::hopeless);
        grid("seven", GridTest::seven);
        Check.end("GridTest");
    }

    // ---- states

    /** Nothing can be added to what is there. */
    private static void full(Pair p) throws ReflectiveOperationException {
        write(p, "ab/ba/ab/aa/ab/ba/ab/ba;aba,bba,aaa,bab");
        both(p, "loadPoem");
        both(p, "make", 5, 2, 0);
        both(p, "lock", 0, 0, true);
        both(p, "lock", 7, 1, true);
        for (int w = 0; w < 2; w++) {
            for (int v = 0; v < 3; v++) {
                both(p, "setSound", w, v);
            }
        }
        write(p, "(12)".repeat(20));
    }

    private static void spoiled(Pair p) throws ReflectiveOperationException {
        write(p, "abc/bca/cac");
        both(p, "loadPoem");
        both(p, "make", 0, 3, 1);
        both(p, "make", 5, 2, 0);
        both(p, "lock", 1, 1, true);
        write(p, "abcd/dcba");
    }

    private static void tailAlone(Pair p) throws ReflectiveOperationException {
        write(p, "aabb;ab,c");
        both(p, "loadPoem");
        both(p, "unrank", 0, 9);
        both(p, "unrank", 5, 6);
        both(p, "drop");
        write(p, "(134)(2)");
    }

    /** No permutation has a cost. */
    private static void hopeless(Pair p) throws ReflectiveOperationException {
        write(p, "abc/bca/cab;a");
        both(p, "loadPoem");
        both(p, "put", 2, 1, 2);
        both(p, "lock", 2, 0, true);
        both(p, "lock", 2, 1, true);
        both(p, "unrank", 5, 1);
        both(p, "clear");
    }

    private static void seven(Pair p) throws ReflectiveOperationException {
        write(p, "abcdefg/gafbecd;ab,c,def");
        both(p, "loadPoem");
        both(p, "make", 0, 3, 1);
        both(p, "make", 5, 4, 6);
        both(p, "lock", 1, 6, true);
        write(p, "abcdefg/");
    }

    // ---- calls

    private static Object on(Object target, String name, Object... args) throws ReflectiveOperationException {
        String key = target.getClass().getName() + " " + name;
        Method method = METHODS.get(key);
        if (method == null) {
            for (Method candidate : target.getClass().getDeclaredMethods()) {
                method = candidate.getName().equals(name) ? candidate : method;
            }
            method.setAccessible(true);
            METHODS.put(key, method);
        }
        return method.invoke(target, args);
    }

    /** Calls both, which have to agree. */
    private static long both(Pair p, String name, Object... args) throws ReflectiveOperationException {
        long got = ((Number) on(p.x, name, args)).longValue();
        long due = ((Number) on(p.m, name, args)).longValue();
        Check.same(name + " " + Arrays.toString(args), got, due);
        return got;
    }

    private static void write(Pair p, String text) throws ReflectiveOperationException {
        both(p, "clear");
        for (char c : text.toCharArray()) {
            both(p, "type", (int) c);
        }
    }

    /** All that can be seen of an object, with all that undo() brings back; the object is used up then. */
    private static List<Long> seen(Object x) throws ReflectiveOperationException {
        List<Long> all = new ArrayList<>();
        int left = 1;
        while (left >= 0) {
            all.add((Long) on(x, "digest"));
            left = (Integer) on(x, "undo");
        }
        all.add(((Integer) on(x, "loadTurn", 0)).longValue());
        all.add(((Integer) on(x, "loadPoem")).longValue());
        all.add((Long) on(x, "digest"));
        return all;
    }

    // ---- the grid

    private static Pair started(Start start) throws ReflectiveOperationException {
        Pair p = new Pair();
        start.bring(p);
        return p;
    }

    private static void grid(String state, Start start) throws ReflectiveOperationException {
        List<Long> untouched = seen(started(start).x);
        for (String row : CALLS) {
            String[] words = row.split(" ");
            List<Object[]> values = new ArrayList<>();
            for (int k = 2; k < words.length; k++) {
                values.add(values(started(start).x, words[k]));
            }
            for (Object[] args : combinations(values)) {
                String what = state + ": " + words[1] + " " + Arrays.toString(args);
                call(what, started(start), words[0], words[1], args, untouched);
            }
        }
    }

    private static void call(String what, Pair p, String how, String name, Object[] args, List<Long> untouched)
            throws ReflectiveOperationException {
        int states = p.x.told(5);
        long before = p.x.digest();
        long answer = both(p, name, args);
        boolean refused = answer < 0 && answer != TurningVerse.NONE && !name.equals("digest");
        if (refused || how.equals("read")) {
            Check.same(what + ": the same", p.x.digest(), before);
            Check.same(what + ": all the same", seen(p.x).equals(untouched) ? 1 : 0, 1);
        } else {
            int due = how.equals("change") ? Math.min(states + 1, 8) : how.equals("undo") ? states - 1 : states;
            Check.same(what + ": states", p.x.told(5), due);
            Check.same(what + ": digest", p.x.digest(), p.m.digest());
            // The model is slow for many words.
            if (p.x.told(0) < 6) {
                Check.same(what + ": all as due", seen(p.x).equals(seen(p.m)) ? 1 : 0, 1);
            }
        }
    }

    private static List<Object[]> combinations(List<Object[]> values) {
        List<Object[]> all = new ArrayList<>();
        all.add(new Object[0]);
        for (Object[] choice : values) {
            List<Object[]> longer = new ArrayList<>();
            for (Object[] ahead : all) {
                for (Object value : choice) {
                    Object[] args = Arrays.copyOf(ahead, ahead.length + 1);
                    args[ahead.length] = value;
                    longer.add(args);
                }
            }
            all = longer;
        }
        return all;
    }

    /** The edges of an argument, what lies just beyond them, and the least and the greatest number of all. */
    private static Object[] values(TurningVerse x, String argument) {
        if (argument.equals("switch")) {
            return new Object[] {true, false};
        }
        int least = least(argument);
        int greatest = greatest(x, argument);
        return Arrays.stream(new int[] {Integer.MIN_VALUE, least - 1, least, greatest, greatest + 1, Integer.MAX_VALUE})
                .distinct().boxed().toArray();
    }

    private static int least(String argument) {
        switch (argument) {
            case "size":
                return 2;
            case "byte":
                return 33;
            case "power":
                return -1000000;
            case "root":
                return 1;
            default:
                return 0;
        }
    }

    private static int greatest(TurningVerse x, String argument) {
        switch (argument) {
            case "size":
                return 7;
            case "line":
                return x.told(0) - 1;
            case "stanza":
                return x.told(1) - 1;
            case "tailLine":
                return x.tail(0) - 1;
            case "number":
                return Model.all(x.told(0)).size() - 1;
            case "byte":
                return 126;
            case "power":
                return 1000000;
            case "root":
                return 12;
            case "turns":
                return 100;
            case "set":
                return 63;
            case "property":
                return 6;
            case "sound":
            case "four":
                return 3;
            case "tailPlace":
            case "factor":
                return 2;
            default:
                return 5;
        }
    }
}
