import java.io.IOException;
import java.nio.file.Files;
import java.nio.file.Path;

/** The examples of README.md: what they answer, and that each line of their code stands here too. */
public final class ReadmeTest {
    private ReadmeTest() {
    }

    public static void main(String[] args) throws IOException {
        examples();
        linesStandHere();
        Check.end("ReadmeTest");
    }

    private static void examples() {
        TurningVerse x = new TurningVerse();
        Check.same("readme: words", x.told(0), 6);
        Check.same("readme: stanzas at first", x.told(1), 0);
        x.make(0, 1, 0);
        x.add(0);
        Check.same("readme: abcdef", Check.words(x, 0), 12345);
        x.add(0);
        Check.same("readme: faebdc", Check.words(x, 1), 504132);
        x.put(1, 0, 3);
        Check.same("readme: daebdc", Check.words(x, 1), 304132);
        int changes = x.mend(0);
        Check.same("readme: mend", changes, 1);
        Check.same("readme: faebdc again", Check.words(x, 1), 504132);
        int back = x.word(1, 0);
        Check.same("readme: word", back, 5);

        for (char c : "abc/cab/bca;ab,c".toCharArray()) {
            x.type(c);
        }
        int stanzas = x.loadPoem();
        Check.same("readme: loadPoem", stanzas, 3);
        Check.same("readme: three words", x.told(0), 3);
        Check.same("readme: two lines", x.tail(0), 2);
        int number = x.common(1);
        Check.same("readme: common", number, 4);
        Check.same("readme: common writes", x.turn(1, 0), 4);

        x.clear();
        for (char c : "(132)".toCharArray()) {
            x.type(c);
        }
        int same = x.loadTurn(2);
        Check.same("readme: loadTurn", same, 4);
        Check.same("readme: loadTurn writes", x.turn(2, 0), 4);
        int follows = x.follows(2);
        Check.same("readme: follows", follows, 1);
        x.undo();
        Check.same("readme: undo", x.turn(2, 0), 0);
        Check.same("readme: the text stays", x.told(4), 5);
    }

    private static void linesStandHere() throws IOException {
        String here = Files.readString(Path.of("src/test/java/ReadmeTest.java"));
        boolean code = false;
        int lines = 0;
        for (String line : Files.readAllLines(Path.of("README.md"))) {
            if (line.startsWith("```")) {
                code = line.equals("```java");
            } else if (code) {
                String call = line.replaceFirst("//.*", "").trim();
                Check.same("readme: stands in the test: " + call, here.contains(call) ? 1 : 0, 1);
                lines++;
            }
        }
        Check.same("readme: has examples", lines > 0 ? 1 : 0, 1);
    }
}
