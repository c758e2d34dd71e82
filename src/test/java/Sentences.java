import java.io.IOException;
import java.nio.file.Files;
import java.nio.file.Path;
import java.util.ArrayList;
import java.util.List;
import java.util.Map;
import java.util.TreeMap;
import java.util.function.IntSupplier;
import java.util.function.IntUnaryOperator;
import java.util.regex.Matcher;
import java.util.regex.Pattern;

/**
 * The document's sentences that name an edge, and the tests that stand for them: a test names the words
 * that it is for, which have to stand in the document, and in the end no such sentence may be without one.
 */
final class Sentences {
    /** The section of all that stands ahead of promise 1. */
    static final int TERMS = 0;
    private static final int PROMISES = 38;
    private static final Path DOCUMENT = Path.of("../shared/DOC.md");
    private static final Pattern HEADING = Pattern.compile("## (Promise (\\d+):)?.*");
    /** What a sentence that names an edge has in it. */
    private static final Pattern EDGE =
            Pattern.compile("\\b(BAD|STATE|FULL|NONE|if|none|no|most|least|empty|first|last|oldest|also)\\b|\\d");

    private static final Map<Integer, List<String>> LINES = new TreeMap<>();
    private static final Map<Integer, List<String>> NAMED = new TreeMap<>();
    private static int section = TERMS;
    private static String words = "";
    private static int checks = 0;

    private Sentences() {
    }

    /** Reads the document. */
    static void begin() throws IOException {
        int reading = TERMS;
        boolean code = false;
        for (String line : Files.readAllLines(DOCUMENT)) {
            Matcher heading = HEADING.matcher(line);
            if (line.startsWith("```")) {
                code = !code;
            } else if (heading.matches() && heading.group(1) != null) {
                reading = Integer.parseInt(heading.group(2));
            } else if (line.startsWith("## Not promised")) {
                break;
            } else if (!code && !line.startsWith("#") && !line.startsWith("Ahead of the calls") && !line.isBlank()) {
                LINES.computeIfAbsent(reading, k -> new ArrayList<>()).add(line.trim());
            }
        }
        Check.same("sections of the document", LINES.size(), 1 + PROMISES);
    }

    /** The checks from here on stand for these words of a promise, or of the terms. */
    static void of(int number, String text) {
        finish();
        section = number;
        words = text;
        checks = 0;
        boolean there = LINES.getOrDefault(number, List.of()).stream().anyMatch(line -> line.contains(text));
        Check.same(number + ": stands in the document: " + text, there ? 1 : 0, 1);
        NAMED.computeIfAbsent(number, k -> new ArrayList<>()).add(text);
    }

    private static void finish() {
        if (!words.isEmpty()) {
            Check.same(section + ": " + words + ": has a check", checks > 0 ? 1 : 0, 1);
        }
    }

    static void due(String what, long got, long due) {
        checks++;
        Check.same(section + ": " + words + ": " + what, got, due);
    }

    /** A call that is refused: what it answers, and that everything stays as it is. */
    static void refused(String what, TurningVerse x, IntSupplier call, int due) {
        long before = x.digest();
        due(what, call.getAsInt(), due);
        due(what + " changes nothing", x.digest(), before);
    }

    /** A call that is refused for each argument but those from least to greatest. */
    static void outside(String what, TurningVerse x, int least, int greatest, IntUnaryOperator call) {
        int[] values = {Integer.MIN_VALUE, least - 1, greatest + 1, Integer.MAX_VALUE};
        for (int value : values) {
            refused(what + " " + value, x, () -> call.applyAsInt(value), TurningVerse.BAD);
        }
    }

    /** Looks for sentences that name an edge, but are named by no test. */
    static void end() {
        finish();
        for (int number : LINES.keySet()) {
            for (String line : LINES.get(number)) {
                for (String clause : clauses(line)) {
                    Check.same(number + ": has a test of its own: " + clause, isNamed(number, clause) ? 1 : 0, 1);
                }
            }
        }
    }

    /** The clauses of a line that name an edge. */
    private static List<String> clauses(String line) {
        List<String> found = new ArrayList<>();
        String text = line.replaceFirst("^`[^`]*\\)`: ", "");
        for (String clause : text.split("(?<=[.;]) ")) {
            if (EDGE.matcher(clause).find()) {
                found.add(clause.replaceFirst("[.;]$", ""));
            }
        }
        return found;
    }

    private static boolean isNamed(int number, String clause) {
        for (String text : NAMED.getOrDefault(number, List.of())) {
            if (clause.contains(text) || text.contains(clause)) {
                return true;
            }
        }
        return false;
    }
}
