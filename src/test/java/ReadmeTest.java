import java.lang.reflect.Method;
import java.lang.reflect.Modifier;
import java.net.URL;
import java.net.URLClassLoader;
import java.nio.file.Files;
import java.nio.file.Path;
import java.util.ArrayList;
import java.util.List;
import java.util.Set;
import java.util.TreeSet;
import java.util.regex.Matcher;
import java.util.regex.Pattern;
import javax.tools.ToolProvider;

/** The code in README.md is compiled and run: each call must answer what stands behind it there. */
public final class ReadmeTest {
    private static final Path README = Path.of("README.md");
    private static final Pattern CALL = Pattern.compile(
        "(?:int (?<name>\\w+) = )?(?<call>desk\\.(?<method>\\w+)\\([^()]*\\)); +// (?<answer>-?\\d+|true|false)(?:: .*)?");

    private static final List<String> calls = new ArrayList<>();
    private static final List<String> said = new ArrayList<>();
    private static final Set<String> shown = new TreeSet<>();
    private static final StringBuilder program = new StringBuilder();

    public static void main(String[] args) throws Exception {
        Due.sentence("README.md: a short piece of code whose answers are those that the document asks for");
        read();
        Due.same("methods shown", shown.toString(), face().toString());
        List<String> answers = answers();
        for (int i = 0; i < answers.size(); i++) {
            Due.same("README.md's " + calls.get(i), answers.get(i), said.get(i));
        }
        Due.end();
    }

    private static void read() throws Exception {
        boolean inCode = false;
        for (String line : Files.readAllLines(README)) {
            if (line.startsWith("```")) {
                inCode = line.equals("```java");
            } else if (inCode) {
                readCode(line);
            }
        }
    }

    private static void readCode(String line) {
        Matcher matcher = CALL.matcher(line);
        if (!matcher.matches()) {
            Due.is("a call that says no answer: " + line, line.contains("desk."), false);
            program.append(line).append('\n');
            return;
        }
        calls.add(matcher.group("call"));
        said.add(matcher.group("answer"));
        shown.add(matcher.group("method"));
        String name = matcher.group("name");
        if (name == null) {
            program.append("answers.add(\"\" + ").append(matcher.group("call")).append(");\n");
        } else {
            program.append("int ").append(name).append(" = ").append(matcher.group("call")).append(";\n");
            program.append("answers.add(\"\" + ").append(name).append(");\n");
        }
    }

    private static Set<String> face() {
        Set<String> names = new TreeSet<>();
        for (Method method : PaneDesk.class.getDeclaredMethods()) {
            if (Modifier.isPublic(method.getModifiers())) {
                names.add(method.getName());
            }
        }
        return names;
    }

    private static List<String> answers() throws Exception {
        Path directory = Files.createTempDirectory("readme");
        Path source = directory.resolve("ReadmeCode.java");
        try {
            Files.writeString(source, "import java.util.*;\npublic final class ReadmeCode {\n"
                + "public static void run(List<String> answers) {\n" + program + "}\n}\n");
            int code = ToolProvider.getSystemJavaCompiler().run(null, null, null, "--release", "17",
                "-cp", System.getProperty("java.class.path"), "-d", directory.toString(), source.toString());
            Due.is("javac of the code in README.md", code, 0);
            return code == 0 ? run(directory) : List.of();
        } finally {
            Files.deleteIfExists(directory.resolve("ReadmeCode.class"));
            Files.deleteIfExists(source);
            Files.deleteIfExists(directory);
        }
    }

    private static List<String> run(Path directory) throws Exception {
        List<String> answers = new ArrayList<>();
        try (URLClassLoader loader = new URLClassLoader(new URL[] {directory.toUri().toURL()})) {
            loader.loadClass("ReadmeCode").getMethod("run", List.class).invoke(null, answers);
        }
        return answers;
    }
}
