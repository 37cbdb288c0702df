import java.lang.reflect.Constructor;
import java.lang.reflect.Field;
import java.lang.reflect.Method;
import java.lang.reflect.Modifier;
import java.nio.file.Files;
import java.nio.file.Path;
import java.util.ArrayList;
import java.util.List;
import java.util.Map;
import java.util.Set;
import java.util.TreeMap;
import java.util.TreeSet;
import java.util.regex.Matcher;
import java.util.regex.Pattern;

// The public face of the document, and rules of LANGUAGE.md that the class or its text shows.
// .ci/run starts it in the project's directory, where the text is found.
public final class FaceTest {
    private static final Path DOCUMENT = Path.of("../shared/DOC.md");
    private static final Path TEXT = Path.of("src/main/java/RowInsertion.java");
    // As it stands in the document.
    private static final List<String> FACE = List.of(
            "public final class RowInsertion {",
            "public static final int BAD_ARG = -1;",
            "public static final int FULL = -2;",
            "public static final int NONE = -4;",
            "public RowInsertion();",
            "public int add(int w, int letter);",
            "public int drop(int w);",
            "public int exchange(int w, int i);",
            "public int move(int w, int i);",
            "public int turn(int w);",
            "public int letter(int w, int i);",
            "public int code(int w);",
            "public int kin(int w);",
            "public int kinAt(int w, int n);",
            "public int related();",
            "public int rising(int w, int k);",
            "public int falling(int w, int k);",
            "public int risingOf(int w, int n);",
            "public int descents(int w);",
            "}");
    private static final Set<String> METHODS = Set.of(
            "add(int,int)", "drop(int)", "exchange(int,int)", "move(int,int)", "turn(int)",
            "letter(int,int)", "code(int)", "kin(int)", "kinAt(int,int)", "related()",
            "rising(int,int)", "falling(int,int)", "risingOf(int,int)", "descents(int)");
    private static final Map<String, Integer> CONSTANTS = Map.of("BAD_ARG", -1, "FULL", -2, "NONE", -4);
    private static int wrong = 0;

    public static void main(String[] args) throws Exception {
        Class<?> c = RowInsertion.class;
        check("public and final", Modifier.isPublic(c.getModifiers()) && Modifier.isFinal(c.getModifiers()));
        check("no package", c.getPackageName().isEmpty());
        check("no nested class", c.getDeclaredClasses().length == 0);
        check("no class or interface above it", c.getSuperclass() == Object.class && c.getInterfaces().length == 0);
        constructors(c);
        methods(c);
        fields(c);
        check("the constants are known when a switch is compiled", constantsInASwitch(RowInsertion.NONE) == 3);
        String code = withoutComments(Files.readString(TEXT));
        faceInText(code);
        wordsOfText(code);
        calls(bodies(code));
        faceInDocument();
        System.out.println(wrong == 0 ? "the face and the rules hold" : wrong + " faults");
        if (wrong != 0) {
            System.exit(1);
        }
    }

    private static void check(String what, boolean holds) {
        if (!holds) {
            wrong++;
            System.out.println("does not hold: " + what);
        }
    }

    // ---- The face ----

    private static void constructors(Class<?> c) {
        Constructor<?>[] all = c.getDeclaredConstructors();
        check("one constructor, public, without parameters", all.length == 1
                && Modifier.isPublic(all[0].getModifiers()) && all[0].getParameterCount() == 0);
    }

    private static void methods(Class<?> c) {
        Set<String> open = new TreeSet<>();
        Set<String> openNames = new TreeSet<>();
        for (Method m : c.getDeclaredMethods()) {
            check("at most seven parameters: " + m.getName(), m.getParameterCount() <= 7);
            if (!Modifier.isPrivate(m.getModifiers())) {
                open.add(signature(m));
                openNames.add(m.getName());
                check("public, of the object, answering int: " + m.getName(), m.getReturnType() == int.class
                        && Modifier.isPublic(m.getModifiers()) && !Modifier.isStatic(m.getModifiers()));
            }
        }
        check("the document's methods and no other: " + open, open.equals(METHODS));
        for (Method m : c.getDeclaredMethods()) {
            check("no private method named as a public one: " + m.getName(),
                    !Modifier.isPrivate(m.getModifiers()) || !openNames.contains(m.getName()));
        }
    }

    private static String signature(Method m) {
        StringBuilder types = new StringBuilder();
        for (Class<?> type : m.getParameterTypes()) {
            types.append(types.length() == 0 ? "" : ",").append(type.getName());
        }
        return m.getName() + "(" + types + ")";
    }

    private static void fields(Class<?> c) throws Exception {
        Map<String, Integer> open = new TreeMap<>();
        int ofObject = 0;
        for (Field f : c.getDeclaredFields()) {
            int mods = f.getModifiers();
            if (!Modifier.isPrivate(mods)) {
                boolean constant = Modifier.isPublic(mods) && Modifier.isStatic(mods) && Modifier.isFinal(mods)
                        && f.getType() == int.class;
                check("public static final int: " + f.getName(), constant);
                open.put(f.getName(), constant ? f.getInt(null) : 0);
            }
            if (Modifier.isStatic(mods)) {
                check("a static field is a constant: " + f.getName(), Modifier.isFinal(mods)
                        && (f.getType() == int.class || f.getType() == long.class));
            } else {
                ofObject++;
            }
        }
        check("the document's constants and no other: " + open, open.equals(CONSTANTS));
        check("at most forty fields: " + ofObject, ofObject <= 40);
    }

    private static int constantsInASwitch(int answer) {
        switch (answer) {
            case RowInsertion.BAD_ARG: return 1;
            case RowInsertion.FULL: return 2;
            case RowInsertion.NONE: return 3;
            default: return 0;
        }
    }

    private static void faceInText(String code) {
        for (String line : FACE) {
            String there = line.endsWith(");") ? line.replace(";", " {") : line;
            check("stands in the class: " + there, code.contains(there));
        }
    }

    private static void faceInDocument() throws Exception {
        if (!Files.exists(DOCUMENT)) {
            System.out.println(DOCUMENT + " is not there: its face is not compared");
            return;
        }
        Matcher block = Pattern.compile("(?s)```java\\s*(.*?)\\s*```").matcher(Files.readString(DOCUMENT));
        String face = block.find() ? block.group(1) : "";
        check("the document's face is the one tested", face.lines().map(String::trim).toList().equals(FACE));
    }

    // ---- The rules of LANGUAGE.md ----

    private static String withoutComments(String text) {
        return text.replaceAll("(?s)/\\*.*?\\*/", "").replaceAll("//[^\n]*", "");
    }

    private static void wordsOfText(String code) {
        Matcher word = Pattern.compile("\\b(import|package|throw|throws|try|catch|synchronized|assert|instanceof|null"
                + "|float|double|String|Object|Math|Integer|System|Arrays|enum|record|interface|protected)\\b"
                + "|->|::|\"").matcher(code);
        while (word.find()) {
            check("without " + word.group(), false);
        }
        Matcher made = Pattern.compile("[^\n]*\\bnew\\b[^\n]*").matcher(code);
        while (made.find()) {
            check("an array made in a field's initialiser: " + made.group().trim(),
                    made.group().matches("    private final \\w+\\[\\] \\w+ = new \\w+\\[\\w+\\];"));
        }
    }

    /** What stands between the braces of each method, by its name. */
    private static Map<String, String> bodies(String code) {
        Map<String, String> bodies = new TreeMap<>();
        Matcher method = Pattern.compile("(?ms)^    (?:public|private) [\\w ]*?(\\w+)\\([^)]*\\) \\{\n(.*?)^    \\}")
                .matcher(code);
        while (method.find()) {
            bodies.put(method.group(1), method.group(2));
        }
        // The constructor is the one that has no type before its name.
        bodies.remove("RowInsertion");
        check("every method of the class is read", bodies.size() == RowInsertion.class.getDeclaredMethods().length);
        return bodies;
    }

    private static void calls(Map<String, String> bodies) {
        Pattern call = Pattern.compile("\\b(" + String.join("|", bodies.keySet()) + ")\\(");
        Map<String, Set<String>> called = new TreeMap<>();
        for (Map.Entry<String, String> method : bodies.entrySet()) {
            long lines = method.getValue().lines().count();
            check("some sixty lines: " + method.getKey() + " has " + lines, lines <= 60);
            Set<String> names = new TreeSet<>();
            Matcher found = call.matcher(method.getValue());
            while (found.find()) {
                names.add(found.group(1));
                String arguments = arguments(method.getValue(), found.end());
                check("no call inside the arguments of " + found.group(1) + " in " + method.getKey(),
                        !call.matcher(arguments).find());
            }
            called.put(method.getKey(), names);
        }
        for (String start : bodies.keySet()) {
            deepestFrom(start, called);
        }
    }

    private static String arguments(String body, int start) {
        int open = 1;
        int end = start;
        while (end < body.length() && open > 0) {
            open += body.charAt(end) == '(' ? 1 : body.charAt(end) == ')' ? -1 : 0;
            end++;
        }
        return body.substring(start, end);
    }

    /** Step by step all that is called; what calls itself never comes to an end of it. */
    private static void deepestFrom(String start, Map<String, Set<String>> called) {
        List<String> level = List.of(start);
        int deep = 0;
        while (!level.isEmpty() && deep <= 6) {
            Set<String> next = new TreeSet<>();
            level.forEach(name -> next.addAll(called.get(name)));
            level = new ArrayList<>(next);
            deep++;
        }
        check("calls at most six deep, and no recursion: " + start, deep <= 6 && level.isEmpty());
    }
}
