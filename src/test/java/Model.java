import java.util.ArrayList;
import java.util.Arrays;
import java.util.HashMap;
import java.util.HashSet;
import java.util.LinkedHashMap;
import java.util.List;
import java.util.Map;
import java.util.Set;
import java.util.regex.Matcher;
import java.util.regex.Pattern;

/**
 * The document's words once more, in the dullest way: by going through all permutations, all first
 * stanzas and all products. It shares no idea with TurningVerse where it can be helped.
 */
final class Model {
    static final int BAD = -1, STATE = -2, FULL = -3, NONE = -9;
    private static final Map<Integer, List<List<Integer>>> ALL = new HashMap<>();

    private static final class Saved {
        int n;
        List<Integer> sounds = new ArrayList<>();
        List<List<Integer>> registers = new ArrayList<>();
        List<List<Integer>> stanzas = new ArrayList<>();
        List<Set<Integer>> locks = new ArrayList<>();
        List<List<Integer>> tail = new ArrayList<>();

        Saved(int n) {
            this.n = n;
            for (int w = 0; w < n; w++) {
                sounds.add(w % 4);
            }
            for (int r = 0; r < 6; r++) {
                registers.add(identity(n));
            }
        }

        Saved(Saved o) {
            n = o.n;
            sounds.addAll(o.sounds);
            for (List<Integer> p : o.registers) {
                registers.add(new ArrayList<>(p));
            }
            for (List<Integer> x : o.stanzas) {
                stanzas.add(new ArrayList<>(x));
            }
            for (Set<Integer> l : o.locks) {
                locks.add(new HashSet<>(l));
            }
            for (List<Integer> t : o.tail) {
                tail.add(new ArrayList<>(t));
            }
        }
    }

    private Saved at = new Saved(6);
    private final List<Saved> past = new ArrayList<>();
    private String text = "";

    // ---- helpers

    static List<Integer> identity(int n) {
        List<Integer> p = new ArrayList<>();
        for (int i = 0; i < n; i++) {
            p.add(i);
        }
        return p;
    }

    /** All permutations in lexicographic order. */
    static List<List<Integer>> all(int n) {
        if (!ALL.containsKey(n)) {
            List<List<Integer>> found = new ArrayList<>();
            collect(n, new ArrayList<>(), found);
            ALL.put(n, found);
        }
        return ALL.get(n);
    }

    private static void collect(int n, List<Integer> prefix, List<List<Integer>> found) {
        if (prefix.size() == n) {
            found.add(new ArrayList<>(prefix));
            return;
        }
        for (int v = 0; v < n; v++) {
            if (!prefix.contains(v)) {
                prefix.add(v);
                collect(n, prefix, found);
                prefix.remove(prefix.size() - 1);
            }
        }
    }

    private static final Map<Integer, Map<List<Integer>, Integer>> NUMBERS = new HashMap<>();

    private int number(List<Integer> p) {
        if (!NUMBERS.containsKey(at.n)) {
            Map<List<Integer>, Integer> m = new HashMap<>();
            for (List<Integer> q : all(at.n)) {
                m.put(q, m.size());
            }
            NUMBERS.put(at.n, m);
        }
        return NUMBERS.get(at.n).get(p);
    }

    private static List<Integer> turned(List<Integer> x, List<Integer> p) {
        List<Integer> y = new ArrayList<>();
        for (int line : p) {
            y.add(x.get(line));
        }
        return y;
    }

    private static List<Integer> inverse(List<Integer> p) {
        List<Integer> q = new ArrayList<>();
        for (int i = 0; i < p.size(); i++) {
            q.add(p.indexOf(i));
        }
        return q;
    }

    private int order(List<Integer> p) {
        List<Integer> q = p;
        int k = 1;
        while (!q.equals(identity(at.n))) {
            q = turned(q, p);
            k++;
        }
        return k;
    }

    private boolean reg(int r) {
        return r >= 0 && r <= 5;
    }

    private boolean line(int i) {
        return i >= 0 && i < at.n;
    }

    private boolean stanza(int s) {
        return s >= 0 && s < at.stanzas.size();
    }

    private void save() {
        past.add(new Saved(at));
        if (past.size() > 8) {
            past.remove(0);
        }
    }

    private boolean isProper(List<Integer> x) {
        return new HashSet<>(x).size() == at.n;
    }

    // ---- words

    int setWords(int n) {
        if (n < 2 || n > 7) {
            return BAD;
        }
        save();
        int before = at.n;
        at = new Saved(n);
        return before;
    }

    int setSound(int w, int v) {
        if (!line(w) || v < 0 || v > 3) {
            return BAD;
        }
        save();
        return at.sounds.set(w, v);
    }

    // ---- texts

    int type(int c) {
        if (c < 33 || c > 126) {
            return BAD;
        }
        if (text.length() == 80) {
            return FULL;
        }
        text += (char) c;
        return text.length();
    }

    int clear() {
        int before = text.length();
        text = "";
        return before;
    }

    private static Pattern poemOf(int n) {
        String w = "[a-" + (char) ('a' + n - 1) + "]";
        String stanza = w + "{" + n + "}";
        String line = w + "{1,3}";
        return Pattern.compile(stanza + "(/" + stanza + "){0,7}(;" + line + "(," + line + "){0,3})?");
    }

    /** The number of words of a right text; -1 if it is the beginning of one; -2 if it is none. */
    private static int standing(String t) {
        int answer = -2;
        for (int n = 2; n <= 7; n++) {
            Matcher m = poemOf(n).matcher(t);
            if (m.matches()) {
                return n;
            }
            if (m.hitEnd()) {
                answer = -1;
            }
        }
        return answer;
    }

    private static int poemFault(String t) {
        Matcher first = Pattern.compile("([a-g]{2,7})([/;].*)?").matcher(t);
        if (first.matches()) {
            String letters = first.group(1);
            for (int i = 0; i < letters.length(); i++) {
                if (letters.charAt(i) - 'a' >= letters.length()) {
                    return i;
                }
            }
        }
        for (int i = 0; i < t.length(); i++) {
            if (standing(t.substring(0, i + 1)) == -2) {
                return i;
            }
        }
        return standing(t) < 0 ? t.length() : -1;
    }

    private static List<List<Integer>> rows(String t, String between) {
        List<List<Integer>> rows = new ArrayList<>();
        for (String part : t.split(between)) {
            List<Integer> row = new ArrayList<>();
            for (char c : part.toCharArray()) {
                row.add(c - 'a');
            }
            rows.add(row);
        }
        return rows;
    }

    int loadPoem() {
        int fault = poemFault(text);
        if (fault >= 0) {
            return -10 - fault;
        }
        save();
        String[] parts = text.split(";");
        int n = parts[0].split("/")[0].length();
        if (n != at.n) {
            at = new Saved(n);
        }
        at.stanzas = rows(parts[0], "/");
        at.locks = new ArrayList<>();
        for (int s = 0; s < at.stanzas.size(); s++) {
            at.locks.add(new HashSet<>());
        }
        at.tail = parts.length == 1 ? new ArrayList<>() : rows(parts[1], ",");
        return at.stanzas.size();
    }

    private int turnFault(String t) {
        String digit = "[1-" + at.n + "]";
        for (int i = 0; i <= t.length(); i++) {
            String ahead = t.substring(0, i);
            String digits = ahead.replaceAll("[^0-9]", "");
            boolean twice = digits.chars().distinct().count() < digits.length();
            if (twice || !ahead.matches("(\\(" + digit + "+\\))*(\\(" + digit + "*)?")) {
                return i - 1;
            }
        }
        return t.isEmpty() || t.endsWith(")") ? -1 : t.length();
    }

    int loadTurn(int r) {
        if (!reg(r)) {
            return BAD;
        }
        int fault = turnFault(text);
        if (fault >= 0) {
            return -10 - fault;
        }
        List<Integer> p = identity(at.n);
        for (String cycle : text.replace("(", "").split("\\)")) {
            for (int i = 0; i < cycle.length(); i++) {
                p.set(cycle.charAt(i) - '1', cycle.charAt((i + 1) % cycle.length()) - '1');
            }
        }
        return write(r, p);
    }

    private int write(int r, List<Integer> p) {
        save();
        at.registers.set(r, p);
        return number(p);
    }

    // ---- permutations

    int make(int r, int kind, int k) {
        if (!reg(r) || kind < 0 || kind > 5 || !line(k)) {
            return BAD;
        }
        int n = at.n;
        List<Integer> p = identity(n);
        if (kind == 1) {
            p.clear();
            for (int low = 0, high = n - 1; low <= high; low++, high--) {
                p.add(high);
                if (low < high) {
                    p.add(low);
                }
            }
        } else if (kind == 2) {
            java.util.Collections.reverse(p);
        } else if (kind == 3) {
            java.util.Collections.rotate(p, -k);
        } else if (kind == 4) {
            java.util.Collections.swap(p, 0, k);
        } else if (kind == 5) {
            p.sort((a, b) -> a % 2 != b % 2 ? a % 2 - b % 2 : a - b);
        }
        return write(r, p);
    }

    int product(int a, int b, int to) {
        if (!reg(a) || !reg(b) || !reg(to)) {
            return BAD;
        }
        return write(to, turned(at.registers.get(a), at.registers.get(b)));
    }

    private List<Integer> times(List<Integer> p, int k) {
        List<Integer> q = identity(at.n);
        for (int i = 0; i < k; i++) {
            q = turned(q, p);
        }
        return q;
    }

    int power(int a, int k, int to) {
        if (!reg(a) || !reg(to) || k < -1000000 || k > 1000000) {
            return BAD;
        }
        List<Integer> p = at.registers.get(a);
        List<Integer> base = k < 0 ? inverse(p) : p;
        return write(to, times(base, Math.abs(k) % order(p)));
    }

    int unrank(int r, int k) {
        if (!reg(r) || k < 0 || k >= all(at.n).size()) {
            return BAD;
        }
        write(r, all(at.n).get(k));
        return order(at.registers.get(r));
    }

    int root(int a, int k, int to) {
        if (!reg(a) || !reg(to) || k < 1 || k > 12) {
            return BAD;
        }
        for (List<Integer> q : all(at.n)) {
            if (times(q, k).equals(at.registers.get(a))) {
                return write(to, q);
            }
        }
        save();
        return NONE;
    }

    int at(int r, int i) {
        return reg(r) && line(i) ? at.registers.get(r).get(i) : BAD;
    }

    int turn(int r, int what) {
        if (!reg(r) || what < 0 || what > 6) {
            return BAD;
        }
        List<Integer> p = at.registers.get(r);
        Set<Set<Integer>> cycles = new HashSet<>();
        for (int i = 0; i < at.n; i++) {
            Set<Integer> cycle = new HashSet<>();
            for (int j = i, k = 0; k < at.n; k++, j = p.get(j)) {
                cycle.add(j);
            }
            cycles.add(cycle);
        }
        switch (what) {
            case 0:
                return number(p);
            case 1:
                return order(p);
            case 2:
                return cycles.size();
            case 3:
                return (int) cycles.stream().filter(c -> c.size() == 1).count();
            case 4:
                return cycles.stream().mapToInt(Set::size).max().getAsInt();
            case 5:
                int pairs = 0;
                for (int i = 0; i < at.n; i++) {
                    for (int j = i + 1; j < at.n; j++) {
                        pairs += p.get(i) > p.get(j) ? 1 : 0;
                    }
                }
                return pairs % 2;
            default:
                return (int) cycles.stream().mapToDouble(c -> Math.pow(8, c.size() - 1)).sum();
        }
    }

    int places(int r, int i, int k) {
        if (!reg(r) || !line(i) || k < 0 || k > 100) {
            return BAD;
        }
        List<Integer> x = identity(at.n);
        int mask = 0;
        for (int t = 0; t <= k; t++) {
            mask |= 1 << x.indexOf(i);
            x = turned(x, at.registers.get(r));
        }
        return mask;
    }

    /** Each product with its shortest word, the smallest of those of equal length. */
    private Map<List<Integer>, String> products(int set) {
        Map<List<Integer>, String> words = new LinkedHashMap<>();
        Map<List<Integer>, String> level = new LinkedHashMap<>();
        level.put(identity(at.n), "");
        while (!level.isEmpty()) {
            words.putAll(level);
            Map<List<Integer>, String> next = new LinkedHashMap<>();
            for (Map.Entry<List<Integer>, String> e : level.entrySet()) {
                for (int r = 0; r < 6; r++) {
                    List<Integer> q = turned(e.getKey(), at.registers.get(r));
                    String w = e.getValue() + r;
                    if ((set & 1 << r) != 0 && !words.containsKey(q)
                            && (!next.containsKey(q) || w.compareTo(next.get(q)) < 0)) {
                        next.put(q, w);
                    }
                }
            }
            level = next;
        }
        return words;
    }

    int generated(int set) {
        return set < 0 || set > 63 ? BAD : products(set).size();
    }

    int reach(int set, int r) {
        if (set < 0 || set > 63 || !reg(r)) {
            return BAD;
        }
        String w = products(set).get(at.registers.get(r));
        return w == null ? NONE : w.length();
    }

    int factor(int set, int r, int i) {
        if (set < 0 || set > 63 || !reg(r) || i < 0) {
            return BAD;
        }
        String w = products(set).get(at.registers.get(r));
        return w == null || i >= w.length() ? NONE : w.charAt(i) - '0';
    }

    // ---- poems

    int add(int r) {
        if (!reg(r)) {
            return BAD;
        }
        int count = at.stanzas.size();
        if (count == 8) {
            return FULL;
        }
        save();
        at.stanzas.add(count == 0 ? identity(at.n) : turned(at.stanzas.get(count - 1), at.registers.get(r)));
        at.locks.add(new HashSet<>());
        return count + 1;
    }

    int drop() {
        if (at.stanzas.isEmpty()) {
            return STATE;
        }
        save();
        at.stanzas.remove(at.stanzas.size() - 1);
        at.locks.remove(at.locks.size() - 1);
        return at.stanzas.size();
    }

    int put(int s, int i, int w) {
        if (!stanza(s) || !line(i) || !line(w)) {
            return BAD;
        }
        save();
        return at.stanzas.get(s).set(i, w);
    }

    int lock(int s, int i, boolean on) {
        if (!stanza(s) || !line(i)) {
            return BAD;
        }
        save();
        boolean before = at.locks.get(s).contains(i);
        if (on) {
            at.locks.get(s).add(i);
        } else {
            at.locks.get(s).remove(i);
        }
        return before ? 1 : 0;
    }

    int word(int s, int i) {
        return stanza(s) && line(i) ? at.stanzas.get(s).get(i) : BAD;
    }

    int proper(int s) {
        return !stanza(s) ? BAD : isProper(at.stanzas.get(s)) ? 1 : 0;
    }

    private List<Integer> between(int s) {
        if (s + 1 >= at.stanzas.size() || proper(s) == 0 || proper(s + 1) == 0) {
            return null;
        }
        for (List<Integer> p : all(at.n)) {
            if (turned(at.stanzas.get(s), p).equals(at.stanzas.get(s + 1))) {
                return p;
            }
        }
        return null;
    }

    int turning(int s) {
        if (!stanza(s)) {
            return BAD;
        }
        List<Integer> p = between(s);
        return p == null ? NONE : number(p);
    }

    private boolean following(List<Integer> p) {
        for (int s = 0; s < at.stanzas.size(); s++) {
            List<Integer> x = at.stanzas.get(s);
            if (!isProper(x) || s > 0 && !turned(at.stanzas.get(s - 1), p).equals(x)) {
                return false;
            }
        }
        return true;
    }

    int common(int to) {
        if (!reg(to)) {
            return BAD;
        }
        if (at.stanzas.size() >= 2) {
            for (List<Integer> p : all(at.n)) {
                if (following(p)) {
                    return write(to, p);
                }
            }
        }
        save();
        return NONE;
    }

    int follows(int r) {
        return !reg(r) ? BAD : following(at.registers.get(r)) ? 1 : 0;
    }

    /** The number of places, or limit if it is not below the limit or a locked place differs. */
    private int different(int[][] powers, int[][] now, boolean[][] locked, int[] first, int limit) {
        int count = 0;
        for (int s = 0; s < now.length; s++) {
            for (int i = 0; i < at.n; i++) {
                if (first[powers[s][i]] != now[s][i]) {
                    count++;
                    if (locked[s][i] || count >= limit) {
                        return limit;
                    }
                }
            }
        }
        return count;
    }

    private static int[] row(List<Integer> x) {
        int[] row = new int[x.size()];
        for (int i = 0; i < row.length; i++) {
            row[i] = x.get(i);
        }
        return row;
    }

    private static final int ENDLESS = 1000;
    private List<Integer> lastFirst;

    /** The cost, if it is below the limit, otherwise the limit; the first stanza goes to lastFirst. */
    private int costOf(List<Integer> p, int limit) {
        int count = at.stanzas.size();
        int[][] now = new int[count][];
        int[][] powers = new int[count][];
        boolean[][] locked = new boolean[count][at.n];
        for (int s = 0; s < count; s++) {
            now[s] = row(at.stanzas.get(s));
            powers[s] = row(times(p, s));
            for (int i : at.locks.get(s)) {
                locked[s][i] = true;
            }
        }
        int least = limit;
        for (List<Integer> first : all(at.n)) {
            int d = different(powers, now, locked, row(first), least);
            if (d < least) {
                least = d;
                lastFirst = first;
            }
        }
        return least;
    }

    int cost(int r) {
        if (!reg(r)) {
            return BAD;
        }
        if (at.stanzas.isEmpty()) {
            return STATE;
        }
        int c = costOf(at.registers.get(r), ENDLESS);
        return c == ENDLESS ? NONE : c;
    }

    int mend(int r) {
        int c = cost(r);
        if (c == BAD || c == STATE) {
            return c;
        }
        save();
        if (c != NONE) {
            List<Integer> x = lastFirst;
            for (int s = 0; s < at.stanzas.size(); s++) {
                at.stanzas.set(s, new ArrayList<>(x));
                x = turned(x, at.registers.get(r));
            }
        }
        return c;
    }

    int best(int to) {
        if (!reg(to)) {
            return BAD;
        }
        if (at.stanzas.isEmpty()) {
            return STATE;
        }
        save();
        int least = ENDLESS;
        for (List<Integer> p : all(at.n)) {
            int c = costOf(p, least);
            if (c < least) {
                least = c;
                at.registers.set(to, p);
            }
        }
        return least == ENDLESS ? NONE : least;
    }

    int tail(int what) {
        if (what < 0 || what > 3) {
            return BAD;
        }
        List<Integer> words = new ArrayList<>();
        at.tail.forEach(words::addAll);
        int mask = 0;
        for (int w = 0; w < at.n; w++) {
            mask |= words.contains(w) ? 0 : 1 << w;
        }
        int few = words.size() < at.n ? NONE : Integer.bitCount(mask);
        return new int[] {at.tail.size(), words.size(), mask, few}[what];
    }

    int tailWord(int line, int k) {
        if (line < 0 || line >= at.tail.size() || k < 0) {
            return BAD;
        }
        return k < at.tail.get(line).size() ? at.tail.get(line).get(k) : NONE;
    }

    // ---- rhymes

    private int schemeOf(List<Integer> x) {
        String digits = "";
        List<Integer> heard = new ArrayList<>();
        for (int w : x) {
            heard.add(at.sounds.get(w));
            digits += heard.indexOf(at.sounds.get(w));
        }
        return Integer.parseInt(digits, 7);
    }

    int scheme(int s) {
        return stanza(s) ? schemeOf(at.stanzas.get(s)) : BAD;
    }

    int schemes(int s, int r) {
        if (!stanza(s) || !reg(r)) {
            return BAD;
        }
        Set<Integer> found = new HashSet<>();
        List<Integer> x = at.stanzas.get(s);
        for (int k = 0; k < 20; k++) {
            found.add(schemeOf(x));
            x = turned(x, at.registers.get(r));
        }
        return found.size();
    }

    int coupled(int s) {
        if (!stanza(s)) {
            return BAD;
        }
        int[] rhymes = new int[all(at.n).size()];
        for (int k = 0; k < rhymes.length; k++) {
            List<Integer> y = turned(at.stanzas.get(s), all(at.n).get(k));
            for (int i = 0; i < at.n - 1; i++) {
                rhymes[k] += at.sounds.get(y.get(i)).equals(at.sounds.get(y.get(i + 1))) ? 1 : 0;
            }
        }
        int most = Arrays.stream(rhymes).max().getAsInt();
        int k = 0;
        while (rhymes[k] < most) {
            k++;
        }
        return k;
    }

    // ---- the whole

    int told(int what) {
        if (what < 0 || what > 5) {
            return BAD;
        }
        int whole = (int) at.stanzas.stream().filter(this::isProper).count();
        int locked = at.locks.stream().mapToInt(Set::size).sum();
        return new int[] {at.n, at.stanzas.size(), whole, locked, text.length(), past.size()}[what];
    }

    int undo() {
        if (past.isEmpty()) {
            return STATE;
        }
        at = past.remove(past.size() - 1);
        return past.size();
    }

    long digest() {
        List<Integer> v = new ArrayList<>();
        for (int what = 0; what <= 5; what++) {
            v.add(told(what));
        }
        v.addAll(at.sounds);
        for (int r = 0; r <= 5; r++) {
            for (int what = 0; what <= 6; what++) {
                v.add(turn(r, what));
            }
        }
        for (int s = 0; s < at.stanzas.size(); s++) {
            v.addAll(at.stanzas.get(s));
            for (int i = 0; i < at.n; i++) {
                v.add(at.locks.get(s).contains(i) ? 1 : 0);
            }
            v.add(turning(s));
            v.add(scheme(s));
        }
        for (int r = 0; r <= 5; r++) {
            v.add(follows(r));
        }
        for (int what = 0; what <= 3; what++) {
            v.add(tail(what));
        }
        at.tail.forEach(v::addAll);
        long h = 12674;
        for (int value : v) {
            h = 31 * h + value;
        }
        return h;
    }
}
