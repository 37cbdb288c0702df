import java.lang.reflect.Constructor;
import java.lang.reflect.Field;
import java.lang.reflect.Method;
import java.lang.reflect.Modifier;
import java.nio.file.Files;
import java.nio.file.Path;
import java.util.Set;
import java.util.TreeSet;
import java.util.regex.Matcher;
import java.util.regex.Pattern;

// The public face of the document, and rules of LANGUAGE.md that the class or its text shows.
// .ci/run starts it in the project's directory, where the text is found.
public final class FaceTest {
    private static final Set<String> FACE = Set.of(
            "add(int,int)", "drop(int)", "exchange(int,int)", "move(int,int)", "turn(int)",
            "letter(int,int)", "code(int)", "kin(int)", "kinAt(int,int)", "related()",
            "rising(int,int)", "falling(int,int)", "risingOf(int,int)", "descents(int)");
    private static final Set<String> CONSTANTS = Set.of("BAD_ARG", "FULL", "NONE");
    private static int wrong = 0;

    public static void main(String[] args) throws Exception {
        Class<?> c = RowInsertion.class;
        check("public and final", Modifier.isPublic(c.getModifiers()) && Modifier.isFinal(c.getModifiers()));
        check("no package", c.getPackageName().isEmpty());
        check("no nested class", c.getDeclaredClasses().length == 0);
        constructors(c);
        methods(c);
        fields(c);
        text();
        System.out.println(wrong == 0 ? "the face and the rules hold" : wrong + " faults");
        if (wrong != 0) {
            System.exit(1);
        }
    }

    private static void check(String what, boolean holds) {
        if (!holds) {
            wrong++;
            System.out.println("does not hold: " + what);
        }
    }

    private static void constructors(Class<?> c) {
        Constructor<?>[] all = c.getDeclaredConstructors();
        check("one constructor, public, without parameters", all.length == 1
                && Modifier.isPublic(all[0].getModifiers()) && all[0].getParameterCount() == 0);
    }

    private static void methods(Class<?> c) {
        Set<String> open = new TreeSet<>();
        Set<String> openNames = new TreeSet<>();
        for (Method m : c.getDeclaredMethods()) {
            check("at most seven parameters: " + m.getName(), m.getParameterCount() <= 7);
            if (!Modifier.isPrivate(m.getModifiers())) {
                open.add(signature(m));
                openNames.add(m.getName());
                check("public, of the object, answering int: " + m.getName(), m.getReturnType() == int.class
                        && Modifier.isPublic(m.getModifiers()) && !Modifier.isStatic(m.getModifiers()));
            }
        }
        check("the document's methods and no other: " + open, open.equals(FACE));
        for (Method m : c.getDeclaredMethods()) {
            check("no private method named as a public one: " + m.getName(),
                    !Modifier.isPrivate(m.getModifiers()) || !openNames.contains(m.getName()));
        }
    }

    private static String signature(Method m) {
        StringBuilder types = new StringBuilder();
        for (Class<?> type : m.getParameterTypes()) {
            types.append(types.length() == 0 ? "" : ",").append(type.getName());
        }
        return m.getName() + "(" + types + ")";
    }

    private static void fields(Class<?> c) {
        Set<String> open = new TreeSet<>();
        for (Field f : c.getDeclaredFields()) {
            int mods = f.getModifiers();
            if (!Modifier.isPrivate(mods)) {
                open.add(f.getName());
                check("public static final int: " + f.getName(), Modifier.isPublic(mods)
                        && Modifier.isStatic(mods) && Modifier.isFinal(mods) && f.getType() == int.class);
            }
            if (Modifier.isStatic(mods)) {
                check("a static field is a constant: " + f.getName(), Modifier.isFinal(mods)
                        && (f.getType() == int.class || f.getType() == long.class));
            }
        }
        check("the document's constants and no other: " + open, open.equals(CONSTANTS));
    }

    private static void text() throws Exception {
        String text = Files.readString(Path.of("src/main/java/RowInsertion.java"));
        String code = text.replaceAll("(?s)/\\*.*?\\*/", "").replaceAll("//[^\n]*", "");
        Matcher word = Pattern.compile("\\b(import|package|throw|throws|try|catch|synchronized|assert|instanceof|null"
                + "|float|double|String|Object|Math|Integer|System|Arrays|enum|record|interface|protected)\\b"
                + "|->|::|\"").matcher(code);
        while (word.find()) {
            check("without " + word.group(), false);
        }
        Matcher made = Pattern.compile("[^\n]*\\bnew\\b[^\n]*").matcher(code);
        while (made.find()) {
            check("an array made in a field's initialiser: " + made.group().trim(),
                    made.group().matches("    private final \\w+\\[\\] \\w+ = new \\w+\\[\\w+\\];"));
        }
    }
}
