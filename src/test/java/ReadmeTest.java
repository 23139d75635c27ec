import java.io.IOException;
import java.lang.reflect.Method;
import java.lang.reflect.Modifier;
import java.net.URL;
import java.net.URLClassLoader;
import java.nio.file.Files;
import java.nio.file.Path;
import java.util.ArrayList;
import java.util.List;
import java.util.NoSuchElementException;
import java.util.Set;
import java.util.TreeSet;
import java.util.regex.Matcher;
import java.util.regex.Pattern;
import java.util.stream.Stream;
import javax.tools.JavaCompiler;
import javax.tools.ToolProvider;

/** What README.md says is so: the answers of the calls that it shows, the tests that it names. Runs in the project. */
public final class ReadmeTest {
    private static final String MAKING = "MobileMaker x = new MobileMaker();";
    /** A call, kept by a name or not, and behind it its answer and why. */
    private static final Pattern SHOWN =
            Pattern.compile("(?:(?:int|long|boolean) (\\w+) = )?(x\\.(\\w+)\\(.*\\)); *// (-?\\d+|true|false): .+");
    private static final Pattern TEXT = Pattern.compile("\"([^\"]*)\"");
    private static final Pattern TEST = Pattern.compile("`(\\w+Test)`");

    private static final Set<String> shown = new TreeSet<>();

    public static void main(String[] args) throws IOException, ReflectiveOperationException {
        List<String> readme = Files.readAllLines(Path.of("README.md"));
        List<List<String>> blocks = javaBlocks(readme);
        Due.is("README.md shows calls", blocks.isEmpty(), false);
        Path work = Files.createTempDirectory("readme");
        try {
            for (int i = 0; i < blocks.size(); i++) {
                runBlock(work, "Readme" + i, blocks.get(i));
            }
        } finally {
            remove(work);
        }
        everyCallIsShown();
        testsAreNamed(String.join("\n", readme));
        Due.is("README.md names .ci/run", readme.contains(".ci/run"), true);
        Due.is(".ci/run can be run", Files.isExecutable(Path.of(".ci", "run")), true);
        Due.end();
    }

    private static List<List<String>> javaBlocks(List<String> readme) {
        List<List<String>> blocks = new ArrayList<>();
        List<String> block = null;
        for (String line : readme) {
            if (line.equals("```java")) {
                block = new ArrayList<>();
            } else if (line.equals("```") && block != null) {
                blocks.add(block);
                block = null;
            } else if (block != null) {
                block.add(line);
            }
        }
        return blocks;
    }

    /** The lines are compiled as they stand, each call with a look at its answer. */
    private static void runBlock(Path work, String name, List<String> block)
            throws IOException, ReflectiveOperationException {
        StringBuilder code = new StringBuilder();
        code.append("public final class ").append(name).append(" { public static void run() {\n");
        for (String line : block) {
            code.append(line.equals(MAKING) ? line : looked(line)).append('\n');
        }
        Path file = Files.writeString(work.resolve(name + ".java"), code.append("} }\n"));
        JavaCompiler compiler = ToolProvider.getSystemJavaCompiler();
        int ended = compiler == null ? 1 : compiler.run(null, null, null, "--release", "17", "-classpath",
                System.getProperty("java.class.path"), "-d", work.toString(), file.toString());
        Due.is("README.md: the compiler, of " + block, ended, 0);
        if (ended == 0) {
            URL[] places = {work.toUri().toURL()};
            try (URLClassLoader loader = new URLClassLoader(places, ReadmeTest.class.getClassLoader())) {
                loader.loadClass(name).getMethod("run").invoke(null);
            }
        }
    }

    private static String looked(String line) {
        Matcher call = SHOWN.matcher(line);
        boolean tells = call.matches();
        Due.is("README.md tells an answer: " + line, tells, true);
        if (!tells) {
            return "";
        }
        shown.add(call.group(3));
        String words = "\"" + call.group(2).replace("\"", "\\\"") + "\"";
        String want = ", " + call.group(4) + ");";
        String look = call.group(1) == null
                ? "ReadmeTest.answers(" + words + ", " + call.group(2) + want
                : line.substring(0, call.end(2)) + "; ReadmeTest.answers(" + words + ", " + call.group(1) + want;
        Matcher text = TEXT.matcher(line);
        return text.find() ? look + " ReadmeTest.shows(x, \"" + text.group(1) + "\");" : look;
    }

    // The three that follow are public for the compiled lines, which come from another loader.

    public static void answers(String call, long got, long want) {
        Due.is("README.md: " + call, got, want);
    }

    public static void answers(String call, boolean got, boolean want) {
        Due.is("README.md: " + call, got, want);
    }

    public static void shows(MobileMaker x, String want) {
        StringBuilder out = new StringBuilder();
        try {
            for (int k = 0; k <= want.length(); k++) {
                out.append((char) x.out(k));
            }
        } catch (NoSuchElementException e) {
            // The text has ended.
        }
        Due.is("README.md: OUT is " + want + ", not " + out, out.toString().equals(want), true);
    }

    private static void everyCallIsShown() {
        for (Method method : MobileMaker.class.getDeclaredMethods()) {
            if (Modifier.isPublic(method.getModifiers())) {
                Due.is("README.md shows " + method.getName(), shown.contains(method.getName()), true);
            }
        }
    }

    private static void testsAreNamed(String readme) throws IOException {
        Set<String> named = new TreeSet<>();
        Matcher test = TEST.matcher(readme);
        while (test.find()) {
            named.add(test.group(1));
        }
        Set<String> there = new TreeSet<>();
        try (Stream<Path> files = Files.list(Path.of("src", "test", "java"))) {
            files.map(file -> file.getFileName().toString()).filter(file -> file.endsWith("Test.java"))
                    .forEach(file -> there.add(file.substring(0, file.length() - ".java".length())));
        }
        Due.is("README.md names " + named + " of " + there, named.equals(there), true);
    }

    private static void remove(Path work) throws IOException {
        try (Stream<Path> files = Files.list(work)) {
            for (Path file : files.toList()) {
                Files.delete(file);
            }
        }
        Files.delete(work);
    }
}
