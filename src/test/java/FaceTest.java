import java.lang.reflect.Constructor;
import java.lang.reflect.Field;
import java.lang.reflect.Method;
import java.lang.reflect.Modifier;
import java.nio.file.Files;
import java.nio.file.Path;
import java.util.Arrays;
import java.util.HashSet;
import java.util.List;
import java.util.Set;
import java.util.TreeSet;

/** The public face, and those rules of LANGUAGE.md that can be seen without understanding the program. */
public final class FaceTest {
    private static final String[] FACE = {
        "int setWords(int)", "int setSound(int,int)", "int type(int)", "int clear()", "int loadPoem()",
        "int loadTurn(int)", "int make(int,int,int)", "int product(int,int,int)", "int power(int,int,int)",
        "int unrank(int,int)", "int root(int,int,int)", "int at(int,int)", "int turn(int,int)",
        "int places(int,int,int)", "int generated(int)", "int reach(int,int)", "int factor(int,int,int)",
        "int add(int)", "int drop()", "int put(int,int,int)", "int lock(int,int,boolean)", "int word(int,int)",
        "int proper(int)", "int turning(int)", "int common(int)", "int follows(int)", "int cost(int)",
        "int mend(int)", "int best(int)", "int tail(int)", "int tailWord(int,int)", "int scheme(int)",
        "int schemes(int,int)", "int coupled(int)", "int told(int)", "int undo()", "long digest()",
    };
    private static final String[] RULED_OUT = {
        "throw", "try", "catch", "synchronized", "assert", "->", "::", "Exact", "instanceof",
        "equals", "hashCode", "toString", "String", "System.out", "Random", "nanoTime", "currentTimeMillis",
    };

    private FaceTest() {
    }

    public static void main(String[] args) throws Exception {
        methods();
        fields();
        classes();
        source(args.length > 0 ? args[0] : "src/main/java/TurningVerse.java");
        Check.end("FaceTest");
    }

    private static void methods() {
        Set<String> open = new TreeSet<>();
        Set<String> names = new HashSet<>();
        for (Method m : TurningVerse.class.getDeclaredMethods()) {
            if (!Modifier.isPrivate(m.getModifiers())) {
                String text = m.toString().replace("TurningVerse.", "");
                open.add(text.replace("public ", ""));
                names.add(m.getName());
            }
        }
        Check.same("face: methods " + open, open.equals(new TreeSet<>(Arrays.asList(FACE))) ? 1 : 0, 1);
        for (Method m : TurningVerse.class.getDeclaredMethods()) {
            if (Modifier.isPrivate(m.getModifiers())) {
                Check.same("face: private " + m.getName(), names.contains(m.getName()) ? 1 : 0, 0);
            }
        }
    }

    private static void fields() throws Exception {
        Check.same("face: BAD", TurningVerse.BAD, -1);
        Check.same("face: STATE", TurningVerse.STATE, -2);
        Check.same("face: FULL", TurningVerse.FULL, -3);
        Check.same("face: NONE", TurningVerse.NONE, -9);
        List<String> constants = Arrays.asList("BAD", "STATE", "FULL", "NONE");
        for (Field f : TurningVerse.class.getDeclaredFields()) {
            int how = f.getModifiers();
            boolean due = constants.contains(f.getName()) ? Modifier.isPublic(how) : Modifier.isPrivate(how);
            Check.same("face: field " + f.getName(), due ? 1 : 0, 1);
            Check.same("face: final " + f.getName(), Modifier.isFinal(how) ? 1 : 0, 1);
        }
    }

    private static void classes() {
        int how = TurningVerse.class.getModifiers();
        Check.same("face: public final", Modifier.isPublic(how) && Modifier.isFinal(how) ? 1 : 0, 1);
        Constructor<?>[] made = TurningVerse.class.getDeclaredConstructors();
        Check.same("face: one constructor", made.length, 1);
        Check.same("face: it is public", Modifier.isPublic(made[0].getModifiers()) ? 1 : 0, 1);
        for (Class<?> c : TurningVerse.class.getDeclaredClasses()) {
            boolean due = Modifier.isPrivate(c.getModifiers()) && Modifier.isStatic(c.getModifiers());
            Check.same("face: class " + c.getName(), due ? 1 : 0, 1);
            for (Field f : c.getDeclaredFields()) {
                boolean state = Modifier.isStatic(f.getModifiers()) && !Modifier.isFinal(f.getModifiers());
                Check.same("face: static state " + f.getName(), state ? 1 : 0, 0);
            }
        }
    }

    private static void source(String file) throws Exception {
        String text = Files.readString(Path.of(file));
        String code = text.replaceAll("(?s)/\\*.*?\\*/", "").replaceAll("//[^\n]*", "");
        for (String word : RULED_OUT) {
            String pattern = Character.isLetter(word.charAt(0)) ? "(?s).*\\b" + word + "\\b.*" : null;
            boolean there = pattern == null ? code.contains(word) : code.matches(pattern);
            Check.same("language: " + word, there ? 1 : 0, 0);
        }
        Check.same("language: static blocks", code.matches("(?s).*static\\s*\\{.*") ? 1 : 0, 0);
        String imports = code.replaceAll("import java\\.util\\.(Arrays|ArrayList|List);", "");
        Check.same("language: imports", imports.contains("import") ? 1 : 0, 0);
        Check.same("language: no package", code.contains("package ") ? 1 : 0, 0);
    }
}
