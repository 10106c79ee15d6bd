import java.io.IOException;
import java.net.MalformedURLException;
import java.net.URL;
import java.net.URLClassLoader;
import java.nio.file.Files;
import java.nio.file.Path;
import java.util.ArrayList;
import java.util.List;
import java.util.stream.Stream;
import javax.tools.JavaCompiler;
import javax.tools.ToolProvider;

/**
 * That the tests of the sentences would fail: the program is broken in one place at a time, and the test of the
 * sentence that is broken by it must tell so. Each sentence has a break at least. Run it in the project's folder.
 */
public final class BrokenSentencesTest {
    private static final Path SOURCE = Path.of("src/main/java/InverterGraphs.java");
    private static final Check check = new Check();

    public static void main(String[] args) throws Exception {
        String source = onOneLine(Files.readString(SOURCE));
        Path folder = Files.createTempDirectory("broken");
        try {
            unbroken(folder, source);
            for (String[] it : Breaks.ALL) {
                broken(folder, source, it);
            }
        } finally {
            delete(folder);
        }
        eachHasABreak();
        System.out.println(Breaks.ALL.length + " breaks");
        check.end();
    }

    /** So that a break can be told without the lines' ends; comments would swallow the rest. */
    private static String onOneLine(String source) {
        return source.replaceAll("(?m)//.*$", "").replaceAll("\\s+", " ");
    }

    private static void unbroken(Path folder, String source) throws Exception {
        List<String> found = brokenSentences(folder, source);
        check.due("sentences that are broken without a break", 0, found == null ? -1 : found.size());
    }

    /** A break: section, the sentence's first words, what stands in the program, and what stands there instead. */
    private static void broken(Path folder, String source, String[] it) throws Exception {
        int at = source.indexOf(it[2]);
        if (at < 0 || source.indexOf(it[2], at + 1) >= 0) {
            check.tell("this does not stand once in the program: " + it[2]);
            return;
        }
        String brokenSource = source.substring(0, at) + it[3] + source.substring(at + it[2].length());
        List<String> found = brokenSentences(folder, brokenSource);
        boolean isFound = found != null && found.stream().anyMatch(name -> isNamed(name, it));
        check.due(it[0] + ": '" + it[1] + "..' with '" + it[3] + "' is told as broken", true, isFound);
    }

    private static boolean isNamed(String name, String[] it) {
        return name.startsWith(it[0] + ": '" + it[1]);
    }

    private static void eachHasABreak() {
        Sentences all = new Sentences(true);
        all.lookAtAll();
        for (String section : all.quotes().keySet()) {
            for (String quote : all.quotes().get(section)) {
                String name = Sentences.name(section, quote);
                boolean has = Stream.of(Breaks.ALL).anyMatch(it -> isNamed(name, it));
                check.due(name + " has a break", true, has);
            }
        }
    }

    /** Null when the program can't be compiled. */
    private static List<String> brokenSentences(Path folder, String source) throws Exception {
        Path file = folder.resolve("InverterGraphs.java");
        Files.writeString(file, source);
        JavaCompiler compiler = ToolProvider.getSystemJavaCompiler();
        if (compiler.run(null, null, null, "-nowarn", "-d", folder.toString(), file.toString()) != 0) {
            return null;
        }
        URL[] places = {folder.toUri().toURL(), ownClasses()};
        try (URLClassLoader loader = new URLClassLoader(places, ClassLoader.getPlatformClassLoader())) {
            var asked = loader.loadClass("Sentences").getDeclaredMethod("brokenOnes");
            asked.setAccessible(true);
            List<String> names = new ArrayList<>();
            for (Object name : (List<?>) asked.invoke(null)) {
                names.add((String) name);
            }
            return names;
        }
    }

    private static URL ownClasses() throws MalformedURLException {
        return BrokenSentencesTest.class.getProtectionDomain().getCodeSource().getLocation();
    }

    private static void delete(Path folder) throws IOException {
        try (Stream<Path> files = Files.list(folder)) {
            for (Path file : files.toList()) {
                Files.delete(file);
            }
        }
        Files.delete(folder);
    }
}
