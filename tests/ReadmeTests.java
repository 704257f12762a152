import java.io.IOException;
import java.lang.reflect.InvocationTargetException;
import java.net.URL;
import java.net.URLClassLoader;
import java.nio.file.Files;
import java.nio.file.Path;
import java.util.ArrayList;
import java.util.Comparator;
import java.util.List;
import java.util.Map;
import java.util.regex.Matcher;
import java.util.regex.Pattern;
import java.util.stream.Collectors;
import java.util.stream.Stream;
import javax.tools.ToolProvider;

/** The calls that README.md shows answer what is written beside them. The first argument is the class's file. */
public final class ReadmeTests {
    private static final int FEWEST_SHOWN = 20;
    private static final Pattern SHOWN = Pattern.compile("```java\n(.*?)```", Pattern.DOTALL);
    private static final Pattern CALL = Pattern.compile("(x\\.\\w+\\([^;]*\\));\\s*// (-?\\d+).*");

    private ReadmeTests() {
    }

    public static void main(String[] args) throws IOException, ReflectiveOperationException {
        Path project = Path.of(args[0]).toAbsolutePath().getParent().getParent().getParent().getParent();
        String readme = Files.readString(project.resolve("README.md"));
        Matcher shown = SHOWN.matcher(readme);
        Script.check("README.md shows how to use the class: this", shown.find());
        List<String> lines = new ArrayList<>();
        List<String> due = new ArrayList<>();
        for (String line : shown.group(1).split("\n")) {
            Matcher call = CALL.matcher(line);
            boolean isDue = call.matches();
            lines.add(isDue ? "answers.put(" + due.size() + ", (long) " + call.group(1) + ");" : line);
            if (isDue) {
                due.add(call.group(1) + " = " + call.group(2));
            }
        }
        Script.check("README.md shows calls with their answers: this", due.size() >= FEWEST_SHOWN);
        Map<?, ?> answers = answersOf(String.join("\n", lines));
        for (int i = 0; i < due.size(); i++) {
            Script.check("README.md: " + due.get(i), due.get(i).endsWith(" = " + answers.get(i)));
        }
        Script.check("README.md tells how to run the tests: this", readme.contains("\n.ci/run\n"));
        Script.end();
    }

    /** What is shown is compiled and run as it stands; what each call answered. */
    private static Map<?, ?> answersOf(String body) throws IOException, ReflectiveOperationException {
        Path room = Files.createTempDirectory("readme");
        Path source = room.resolve("Shown.java");
        Files.writeString(source, "public final class Shown { public static java.util.Map<Integer, Long> run() {\n"
            + "java.util.Map<Integer, Long> answers = new java.util.HashMap<>();\n" + body + "\nreturn answers; } }\n");
        int refusal = ToolProvider.getSystemJavaCompiler().run(null, null, null,
            "-cp", System.getProperty("java.class.path"), "-d", room.toString(), source.toString());
        Script.check("what README.md shows compiles: this", refusal == 0);
        try (URLClassLoader loader = new URLClassLoader(new URL[] {room.toUri().toURL()})) {
            return refusal == 0 ? (Map<?, ?>) loader.loadClass("Shown").getMethod("run").invoke(null) : Map.of();
        } catch (InvocationTargetException e) {
            Script.check("what README.md shows ends without " + e.getCause() + ": this", false);
            return Map.of();
        } finally {
            remove(room);
        }
    }

    private static void remove(Path room) throws IOException {
        try (Stream<Path> all = Files.walk(room)) {
            for (Path path : all.sorted(Comparator.reverseOrder()).collect(Collectors.toList())) {
                Files.delete(path);
            }
        }
    }
}
