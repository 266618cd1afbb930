import java.io.IOException;
import java.lang.reflect.Method;
import java.lang.reflect.Modifier;
import java.net.URL;
import java.net.URLClassLoader;
import java.nio.file.Files;
import java.nio.file.Path;
import java.util.ArrayList;
import java.util.Collections;
import java.util.List;
import java.util.function.IntConsumer;
import java.util.regex.Matcher;
import java.util.regex.Pattern;
import javax.tools.ToolProvider;

/** The example of use in README.md compiles as it stands, and each of its calls answers what stands behind it. */
public final class ReadmeTest {
    private static final Pattern CALL =
            Pattern.compile("(x\\.\\w+\\(.*?\\)); +// (-?\\d+|BAD_ARG|FULL|TOO_FEW|NONE)(: .*)?");
    private static final List<String> CONSTANTS = List.of("BAD_ARG", "FULL", "TOO_FEW", "NONE");

    private final Due due = new Due();
    private final List<String> calls = new ArrayList<>();
    private final List<Integer> wanted = new ArrayList<>();

    public static void main(String[] args) throws Exception {
        ReadmeTest test = new ReadmeTest();
        List<String> readme = Files.readAllLines(Path.of("README.md"));
        // A second example would stand there without being looked at.
        test.due.is("examples in README.md", Collections.frequency(readme, "```java"), 1);
        List<String> example = exampleIn(readme);
        test.answersAsItSays(example);
        test.showsAndNamesEveryMethod(example, readme);
        test.namesEveryConstant(readme);
        test.due.end();
    }

    private static List<String> exampleIn(List<String> readme) {
        int start = readme.indexOf("```java") + 1;
        List<String> rest = readme.subList(start, readme.size());
        return rest.subList(0, rest.indexOf("```"));
    }

    private void answersAsItSays(List<String> example) throws Exception {
        String asking = askingForm(example);
        String source = "public final class Example {\n"
                + "public static void asItStands() {\n" + String.join("\n", example) + "\n}\n"
                + "public static void ask(java.util.function.IntConsumer answer) {\n" + asking + "}\n}\n";
        List<Integer> got = answers(source);
        due.is("answers of the example", got.size(), wanted.size());
        for (int n = 0; n < got.size() && n < wanted.size(); n++) {
            due.is("README.md: " + calls.get(n), got.get(n), wanted.get(n));
        }
    }

    /** The example with each call handing its answer on; fills calls and wanted. */
    private String askingForm(List<String> example) {
        StringBuilder asking = new StringBuilder();
        for (String line : example) {
            Matcher call = CALL.matcher(line);
            if (call.matches()) {
                calls.add(call.group(1));
                wanted.add(answerNamed(call.group(2)));
                asking.append("answer.accept(").append(call.group(1)).append(");\n");
            } else {
                boolean makesTheObject = line.equals("RealSigns x = new RealSigns();");
                due.is("'" + line + "' has an answer", makesTheObject || line.isEmpty() ? 1 : 0, 1);
                asking.append(line).append("\n");
            }
        }
        return asking.toString();
    }

    private static int answerNamed(String answer) {
        return switch (answer) {
            case "BAD_ARG" -> RealSigns.BAD_ARG;
            case "FULL" -> RealSigns.FULL;
            case "TOO_FEW" -> RealSigns.TOO_FEW;
            case "NONE" -> RealSigns.NONE;
            default -> Integer.parseInt(answer);
        };
    }

    private List<Integer> answers(String source) throws Exception {
        List<Integer> got = new ArrayList<>();
        Path place = Files.createTempDirectory("readme");
        Path file = Files.writeString(place.resolve("Example.java"), source);
        int code = ToolProvider.getSystemJavaCompiler().run(null, null, null,
                "-cp", System.getProperty("java.class.path"), "-d", place.toString(), file.toString());
        due.is("javac of the example in README.md", code, 0);
        if (code == 0) {
            IntConsumer keep = got::add;
            try (URLClassLoader loader = new URLClassLoader(new URL[] {place.toUri().toURL()})) {
                loader.loadClass("Example").getMethod("ask", IntConsumer.class).invoke(null, keep);
            }
        }
        delete(place);
        return got;
    }

    private static void delete(Path place) throws IOException {
        Files.deleteIfExists(place.resolve("Example.class"));
        Files.delete(place.resolve("Example.java"));
        Files.delete(place);
    }

    private void showsAndNamesEveryMethod(List<String> example, List<String> readme) {
        for (Method m : RealSigns.class.getDeclaredMethods()) {
            if (Modifier.isPublic(m.getModifiers())) {
                String name = m.getName();
                due.is("the example shows " + name, linesStarting(example, "x." + name + "("), 1);
                due.is("a table names " + name, linesStarting(readme, "| `" + name + "("), 1);
            }
        }
    }

    private void namesEveryConstant(List<String> readme) {
        for (String name : CONSTANTS) {
            String row = "| `" + name + "` | " + answerNamed(name) + " |";
            due.is("a table names " + name + " with its number", linesStarting(readme, row), 1);
        }
    }

    private static int linesStarting(List<String> lines, String start) {
        return lines.stream().anyMatch(line -> line.startsWith(start)) ? 1 : 0;
    }
}
