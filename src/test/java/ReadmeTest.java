import java.io.IOException;
import java.lang.reflect.Method;
import java.lang.reflect.Modifier;
import java.net.URL;
import java.net.URLClassLoader;
import java.nio.file.Files;
import java.nio.file.Path;
import java.util.ArrayList;
import java.util.List;
import java.util.TreeSet;
import java.util.regex.Matcher;
import java.util.regex.Pattern;
import java.util.stream.Stream;
import javax.tools.JavaCompiler;
import javax.tools.ToolProvider;

/**
 * What README.md says holds as it stands there: its lines of code answer what they tell, they show each call of the
 * face, and it names every test. Run it in the project's folder.
 */
public final class ReadmeTest {
    /** A line of code that makes a variable, and what it tells first: "int a = x.input(); // 2: ..". */
    private static final Pattern TOLD = Pattern.compile("(?:int|boolean) (\\w+) = .*; +// (-?\\d+|true|false)(:.*)?");

    private static final Check check = new Check();

    public static void main(String[] args) throws Exception {
        String readme = Files.readString(Path.of("README.md"));
        List<String> example = example(readme);
        answers(example);
        showsEachCall(String.join("\n", example));
        namesEachTest(readme);
        check.end();
    }

    private static List<String> example(String readme) {
        Matcher found = Pattern.compile("(?s)```java\n(.*?)```").matcher(readme);
        return found.find() ? found.group(1).lines().toList() : List.of();
    }

    private static void answers(List<String> example) throws Exception {
        StringBuilder body = new StringBuilder();
        List<String> told = new ArrayList<>();
        for (String line : example) {
            body.append(line).append('\n');
            Matcher found = TOLD.matcher(line);
            if (found.matches()) {
                told.add(found.group(2));
                body.append("answers.add(\"\" + ").append(found.group(1)).append(");\n");
            } else {
                check.due("a line that tells no answer", "InverterGraphs x = new InverterGraphs();", line);
            }
        }
        check.due("answers of the README", told.toString(), String.valueOf(run(body.toString())));
    }

    /** Null when it can't be compiled. */
    private static Object run(String body) throws Exception {
        Path folder = Files.createTempDirectory("readme");
        try {
            Path file = folder.resolve("ReadmeExample.java");
            Files.writeString(file, "public class ReadmeExample { public static java.util.List<String> answers() {\n"
                + "java.util.List<String> answers = new java.util.ArrayList<>();\n" + body + "return answers; } }\n");
            URL own = ReadmeTest.class.getProtectionDomain().getCodeSource().getLocation();
            JavaCompiler compiler = ToolProvider.getSystemJavaCompiler();
            String classes = Path.of(own.toURI()).toString();
            if (compiler.run(null, null, null, "-cp", classes, "-d", folder.toString(), file.toString()) != 0) {
                return null;
            }
            try (URLClassLoader loader = new URLClassLoader(new URL[] {folder.toUri().toURL(), own})) {
                return loader.loadClass("ReadmeExample").getMethod("answers").invoke(null);
            }
        } finally {
            delete(folder);
        }
    }

    private static void showsEachCall(String example) {
        for (Method method : InverterGraphs.class.getDeclaredMethods()) {
            if (Modifier.isPublic(method.getModifiers())) {
                check.due(method.getName() + " is shown", true, example.contains("x." + method.getName() + "("));
            }
        }
    }

    private static void namesEachTest(String readme) throws IOException {
        TreeSet<String> named = new TreeSet<>();
        Matcher found = Pattern.compile("(?m)^- `(\\w+Test)`: ").matcher(readme);
        while (found.find()) {
            named.add(found.group(1));
        }
        TreeSet<String> there = new TreeSet<>();
        try (Stream<Path> files = Files.list(Path.of("src/test/java"))) {
            files.map(file -> file.getFileName().toString()).filter(name -> name.endsWith("Test.java"))
                .forEach(name -> there.add(name.replace(".java", "")));
        }
        check.due("the tests that the README names", there.toString(), named.toString());
        check.due("the README tells how to run them", true, readme.contains("\n    .ci/run\n"));
        check.due(".ci/run can be run", true, Files.isExecutable(Path.of(".ci/run")));
    }

    private static void delete(Path folder) throws IOException {
        try (Stream<Path> files = Files.list(folder)) {
            for (Path file : files.toList()) {
                Files.delete(file);
            }
        }
        Files.delete(folder);
    }
}
