import java.io.IOException;
import java.lang.reflect.Method;
import java.lang.reflect.Modifier;
import java.nio.file.Files;
import java.nio.file.Path;
import java.util.ArrayList;
import java.util.List;
import java.util.Set;
import java.util.TreeSet;
import java.util.regex.Matcher;
import java.util.regex.Pattern;
import javax.tools.ToolProvider;

/** The example of README.md is compiled and run, and each call in it answers what stands behind it there. */
public final class ReadmeTest {
    // A call on a line of its own, with its answer: a number, a sign, true, false or a throw, and words if there are.
    private static final Pattern CALL = Pattern.compile("^ {8,12}(x\\.(\\w+)\\(.*\\));(.*)$");
    private static final Pattern ANSWER =
        Pattern.compile("^ +// (-?\\d+|'.'|true|false|throws NoSuchElementException)(:? .*)?$");

    public static void main(String[] args) throws Exception {
        List<String> example = example();
        compileAndRun("Example", String.join("\n", example));
        compileAndRun("Checked", checked(example));
        Check.finish();
    }

    /** The lines of the one example in README.md. */
    private static List<String> example() throws IOException {
        List<String> lines = new ArrayList<>();
        boolean inside = false;
        int examples = 0;
        for (String line : Files.readAllLines(Path.of("README.md"))) {
            if (line.equals("```java")) {
                inside = true;
                examples++;
            } else if (line.equals("```")) {
                inside = false;
            } else if (inside) {
                lines.add(line);
            }
        }
        Check.due("examples in README.md", 1, examples);
        return lines;
    }

    /** The example with each call of its main method compared with the answer behind it. */
    private static String checked(List<String> example) {
        StringBuilder source = new StringBuilder();
        Set<String> shown = new TreeSet<>();
        boolean inside = false;
        for (String line : example) {
            inside = line.contains(" main(") || inside && !line.equals("    }");
            Matcher call = CALL.matcher(line);
            if (inside && call.matches()) {
                source.append(comparison(call.group(1), call.group(3)));
                shown.add(call.group(2));
            } else {
                source.append(line.replace("class Example", "class Checked"));
            }
            source.append('\n');
        }
        Check.same("the calls that README.md shows", face().toString(), shown.toString());
        return source.toString();
    }

    private static Set<String> face() {
        Set<String> names = new TreeSet<>();
        for (Method method : NounFast.class.getDeclaredMethods()) {
            if (Modifier.isPublic(method.getModifiers())) {
                names.add(method.getName());
            }
        }
        return names;
    }

    private static String comparison(String call, String rest) {
        Matcher answer = ANSWER.matcher(rest);
        Check.due("README.md tells the answer of " + call, true, answer.matches());
        if (!answer.matches()) {
            return "";
        }
        String want = answer.group(1);
        if (want.startsWith("throws")) {
            return "Check.throwsNoSuch(\"" + call + "\", () -> " + call + ");";
        }
        return "Check.due(\"README.md: " + call + "\", " + want + ", " + call + ");";
    }

    /** Compiles it to where this test's own classes are, so that it counts what is wrong in the same Check. */
    private static void compileAndRun(String name, String source) throws Exception {
        Path folder = Path.of(ReadmeTest.class.getProtectionDomain().getCodeSource().getLocation().toURI());
        Path file = folder.resolve(name + ".java");
        Files.writeString(file, source);
        int failed = ToolProvider.getSystemJavaCompiler().run(null, System.out, System.out, "-Xlint:all", "-Werror",
            "-cp", folder.toString(), "-d", folder.toString(), file.toString());
        Check.due(name + " of README.md compiles", 0, failed);
        if (failed == 0) {
            Class.forName(name).getMethod("main", String[].class).invoke(null, (Object) new String[0]);
        }
    }
}
