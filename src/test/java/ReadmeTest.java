import java.lang.reflect.Method;
import java.lang.reflect.Modifier;
import java.net.URL;
import java.net.URLClassLoader;
import java.nio.file.Files;
import java.nio.file.Path;
import java.util.ArrayList;
import java.util.List;
import java.util.regex.Matcher;
import java.util.regex.Pattern;
import javax.tools.ToolProvider;

// What README.md shows as an example is what the class answers: each line is compiled as it stands there and run.
public final class ReadmeTest {
    private static final String FIRST = "ConstructiveDesk desk = new ConstructiveDesk();";
    private static final Pattern LINE = Pattern.compile("(?:int (\\w+) = )?(desk\\.(\\w+)\\(.*\\));\\s*// (-?\\d+)(?:: .*)?");

    private static final List<String> calls = new ArrayList<>();
    private static final List<String> names = new ArrayList<>();
    private static final List<Integer> shown = new ArrayList<>();
    private static int wrong = 0;

    private static void tell(String what) {
        wrong++;
        System.out.println(what);
    }

    private static List<String> example() throws Exception {
        List<String> lines = Files.readAllLines(Path.of("README.md"));
        int from = lines.indexOf("```java") + 1;
        int to = from;
        while (from > 0 && to < lines.size() && !lines.get(to).equals("```")) {
            to++;
        }
        return lines.subList(from, to);
    }

    // A class whose method answers all that the example's calls answer, in their order.
    private static String program(List<String> example) {
        StringBuilder body = new StringBuilder(FIRST + "\n");
        for (String line : example.subList(1, example.size())) {
            Matcher m = LINE.matcher(line);
            if (!m.matches()) {
                tell("a line that shows no answer: " + line);
                continue;
            }
            String into = "answers[" + calls.size() + "] = ";
            body.append(m.group(1) == null ? into + m.group(2) + ";\n" : "int " + m.group(1) + " = " + into + m.group(2) + ";\n");
            calls.add(m.group(2));
            names.add(m.group(3));
            shown.add(Integer.valueOf(m.group(4)));
        }
        return "public class Example {\npublic static int[] run() {\nint[] answers = new int[" + calls.size() + "];\n"
            + body + "return answers;\n}\n}\n";
    }

    private static int[] answersOf(String program) throws Exception {
        Path dir = Files.createTempDirectory("readme");
        Path source = dir.resolve("Example.java");
        Path compiled = dir.resolve("Example.class");
        try {
            Files.writeString(source, program);
            String classes = System.getProperty("java.class.path");
            int refused = ToolProvider.getSystemJavaCompiler().run(null, null, null, "-cp", classes, source.toString());
            if (refused != 0) {
                return null;
            }
            try (URLClassLoader loader = new URLClassLoader(new URL[] {dir.toUri().toURL()})) {
                return (int[]) loader.loadClass("Example").getMethod("run").invoke(null);
            }
        } finally {
            Files.deleteIfExists(source);
            Files.deleteIfExists(compiled);
            Files.deleteIfExists(dir);
        }
    }

    private static void everyMethodIsShown() {
        for (Method m : ConstructiveDesk.class.getDeclaredMethods()) {
            if (Modifier.isPublic(m.getModifiers()) && !names.contains(m.getName())) {
                tell("the example does not show " + m.getName());
            }
        }
    }

    private static void check() throws Exception {
        List<String> example = example();
        if (example.isEmpty() || !example.get(0).equals(FIRST)) {
            tell("README.md has no example that begins with: " + FIRST);
            return;
        }
        int[] answers = answersOf(program(example));
        if (answers == null) {
            tell("the example does not compile");
            return;
        }
        for (int n = 0; n < answers.length; n++) {
            if (answers[n] != shown.get(n)) {
                tell(calls.get(n) + " answered " + answers[n] + ", README.md shows " + shown.get(n));
            }
        }
        everyMethodIsShown();
    }

    public static void main(String[] args) throws Exception {
        check();
        System.out.println(wrong == 0 ? "the example is as the class answers" : wrong + " faults in the example");
        if (wrong != 0) {
            System.exit(1);
        }
    }
}
