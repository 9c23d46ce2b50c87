import java.lang.reflect.Constructor;
import java.lang.reflect.Field;
import java.lang.reflect.Method;
import java.lang.reflect.Modifier;
import java.nio.file.Files;
import java.nio.file.Path;
import java.util.ArrayList;
import java.util.HashMap;
import java.util.HashSet;
import java.util.List;
import java.util.Map;
import java.util.Set;
import java.util.TreeSet;
import java.util.regex.Matcher;
import java.util.regex.Pattern;

/** The public face of the document, and those rules of LANGUAGE.md that can be seen in the source's text. */
public final class LanguageTest {
    private static final Path SOURCE = Path.of("src/main/java/PaneDesk.java");
    private static final String[] FACE = {
        "boolean arrange(int,int,int,int)", "boolean change(int,int,int)", "boolean effect(int,int,int)",
        "boolean shift(int,int,int)", "boolean wish(int,int,int,int,int)", "int at(int,int)",
        "int make(int,int,int,int,int,int,int)", "int noted(int)", "int pixel(int,int)",
        "int post(int,int,int)", "int pump(int)", "int rectangle(int,int)", "int remove(int)",
        "int screen()", "int special(int)", "int state(int,int)",
    };

    public static void main(String[] args) throws Exception {
        face();
        fields();
        String code = Files.readString(SOURCE).replaceAll("(?s)/\\*.*?\\*/", "").replaceAll("//[^\n]*", "");
        words(code);
        library(code);
        constants(code);
        arrays(code);
        loops(code);
        Map<String, String> bodies = bodies(code);
        lengths(bodies);
        localArrays(bodies);
        noCallInACall(code);
        depth(bodies);
        Due.end();
    }

    private static void face() {
        Set<String> found = new TreeSet<>();
        Set<String> names = new HashSet<>();
        for (Method method : PaneDesk.class.getDeclaredMethods()) {
            if (!Modifier.isPrivate(method.getModifiers())) {
                found.add(signature(method));
                names.add(method.getName());
            }
        }
        Due.same("public methods", String.join("; ", found), String.join("; ", FACE));
        for (Method method : PaneDesk.class.getDeclaredMethods()) {
            boolean hidden = Modifier.isPrivate(method.getModifiers());
            Due.is("private " + method.getName(), hidden && names.contains(method.getName()), false);
            Due.is("parameters of " + method.getName(), method.getParameterCount() <= 7, true);
        }
        Constructor<?>[] constructors = PaneDesk.class.getDeclaredConstructors();
        Due.is("constructors", constructors.length, 1);
        Due.is("constructor's parameters", constructors[0].getParameterCount(), 0);
        Due.is("public and final", PaneDesk.class.getModifiers(), Modifier.PUBLIC | Modifier.FINAL);
        Due.is("nested classes", PaneDesk.class.getDeclaredClasses().length, 0);
    }

    private static String signature(Method method) {
        List<String> types = new ArrayList<>();
        for (Class<?> type : method.getParameterTypes()) {
            types.add(type.getName());
        }
        return method.getReturnType().getName() + " " + method.getName() + "(" + String.join(",", types) + ")";
    }

    private static void fields() {
        Set<String> open = new TreeSet<>();
        int own = 0;
        for (Field field : PaneDesk.class.getDeclaredFields()) {
            if (!Modifier.isPrivate(field.getModifiers())) {
                open.add(field.getName());
            }
            if (Modifier.isStatic(field.getModifiers())) {
                Due.is("static " + field.getName(), field.getType() == int.class, true);
            } else {
                own++;
            }
        }
        Due.same("open fields", open.toString(), "[FULL, REFUSED]");
        Due.is("at most some forty fields", own <= 40, true);
    }

    private static void words(String code) {
        String[] forbidden = {"import", "package", "float", "double", "String", "Math", "Integer", "System",
            "Arrays", "Object", "null", "throw", "throws", "try", "catch", "synchronized", "assert",
            "instanceof", "interface", "enum", "record", "->", "::", "\"", "\\[\\]\\s*\\["};
        for (String word : forbidden) {
            String pattern = Character.isLetter(word.charAt(0)) ? "\\b" + word + "\\b" : word;
            Due.is("uses " + word, Pattern.compile(pattern).matcher(code).find(), false);
        }
    }

    private static void library(String code) {
        // Constants are all in capitals, so any other name that begins with one is a class's.
        Matcher name = Pattern.compile("\\b[A-Z]\\w*[a-z]\\w*").matcher(code);
        while (name.find()) {
            Due.same("class", name.group(), "PaneDesk");
        }
        Due.is("a member of something", code.indexOf('.'), -1);
    }

    private static void constants(String code) {
        for (String line : code.split("\n")) {
            if (line.contains(" static ") && !line.contains("(")) {
                boolean constant = line.matches("    (public|private) static final int [A-Z_]+ = [^\\[]*;");
                Due.is("a constant: " + line.trim(), constant, true);
            }
        }
    }

    private static void arrays(String code) {
        for (String line : code.split("\n")) {
            if (line.contains("new ")) {
                boolean field = line.matches("    private final \\w+\\[\\] \\w+ = new \\w+\\[[A-Z]+\\];");
                Due.is("an array that is made in a field: " + line.trim(), field, true);
            }
        }
    }

    private static void localArrays(Map<String, String> bodies) {
        for (Map.Entry<String, String> body : bodies.entrySet()) {
            Due.is("an array of its own in " + body.getKey(), body.getValue().contains("[]"), false);
        }
        for (Method method : PaneDesk.class.getDeclaredMethods()) {
            Due.is(method.getName() + " answers an array", method.getReturnType().isArray(), false);
        }
    }

    /** Loops are all written with for and a counter, so that the end of each can be seen. */
    private static void loops(String code) {
        String header = ".*for \\(int (\\w+) = [^;]+; \\1 [<>] [^;]+; \\1(\\+\\+|--)\\) \\{";
        for (String line : code.split("\n")) {
            if (Pattern.compile("\\b(for|while|do)\\b").matcher(line).find()) {
                Due.is("a loop with a counter: " + line.trim(), line.matches(header), true);
            }
        }
    }

    private static Map<String, String> bodies(String code) {
        Map<String, String> bodies = new HashMap<>();
        Matcher matcher = Pattern.compile("(?ms)^    (?:public|private)[^;=\n]*?(\\w+)\\([^)]*\\) \\{\n(.*?)^    \\}")
            .matcher(code);
        while (matcher.find()) {
            bodies.put(matcher.group(1), matcher.group(2));
        }
        int methods = PaneDesk.class.getDeclaredMethods().length + 1;
        Due.is("methods found in the source", bodies.size(), methods);
        return bodies;
    }

    private static void lengths(Map<String, String> bodies) {
        for (Map.Entry<String, String> body : bodies.entrySet()) {
            Due.is(body.getKey() + " is short", body.getValue().lines().count() <= 60, true);
        }
    }

    private static void noCallInACall(String code) {
        // Innermost brackets of a call become #; a call that has one among its arguments holds a call.
        Matcher call = Pattern.compile("\\b(?!if\\b|for\\b|while\\b|switch\\b)\\w+\\([^()]*\\)").matcher(code);
        String marked = call.replaceAll("#");
        Matcher outer = Pattern.compile("\\b(?!if\\b|for\\b|while\\b|switch\\b)(\\w+)\\([^()]*#").matcher(marked);
        while (outer.find()) {
            Due.is("a call inside a call of " + outer.group(1), true, false);
        }
    }

    private static void depth(Map<String, String> bodies) {
        for (String name : bodies.keySet()) {
            Due.is("calls below " + name + " go at most six deep", depthOf(name, bodies, 0) <= 6, true);
        }
    }

    private static int depthOf(String name, Map<String, String> bodies, int above) {
        if (above > 20) {
            return above;
        }
        int deepest = 0;
        for (String other : bodies.keySet()) {
            if (Pattern.compile("\\b" + other + "\\(").matcher(bodies.get(name)).find()) {
                deepest = Math.max(deepest, depthOf(other, bodies, above + 1));
            }
        }
        return deepest + 1;
    }
}
