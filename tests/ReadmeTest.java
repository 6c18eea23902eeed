import java.io.File;
import java.io.IOException;
import java.lang.reflect.Method;
import java.net.URL;
import java.net.URLClassLoader;
import java.nio.file.Files;
import java.nio.file.Path;
import java.util.ArrayList;
import java.util.List;
import java.util.regex.Matcher;
import java.util.regex.Pattern;
import java.util.stream.Stream;
import javax.tools.JavaCompiler;
import javax.tools.ToolProvider;

/** The example of README.md, compiled as it stands there and held against the class; the tests that README.md names. */
public final class ReadmeTest {
    private static final Pattern BLOCK = Pattern.compile("(?s)```java\n(.*?)```");
    private static final Pattern CALL = Pattern.compile("((?:x\\.|text\\().*\\)); +// (-?\\d+)(?:: .*)?");
    private static final Pattern TEST = Pattern.compile("tests/\\w+Test\\.java");
    private static int wrong = 0;

    private static void holds(boolean holds, String what) {
        if (!holds) {
            wrong++;
            System.out.println("README.md: " + what);
        }
    }

    public static void main(String[] args) throws IOException, ReflectiveOperationException {
        String readme = Files.readString(Path.of("README.md"));
        List<String> blocks = new ArrayList<>();
        for (Matcher m = BLOCK.matcher(readme); m.find();) blocks.add(m.group(1));
        holds(blocks.size() == 2, "how a text is written, and the example");
        if (blocks.size() == 2) {
            everyCallIsShown(blocks.get(1));
            runExample(sourceOf(blocks.get(0), blocks.get(1)));
        }
        namesItsTests(readme);
        System.out.println(wrong == 0 ? "README.md tells it as it is" : wrong + " things are not as README.md tells");
        if (wrong != 0) System.exit(1);
    }

    private static void everyCallIsShown(String example) {
        for (Method m : BoathouseKey.class.getMethods()) {
            if (m.getDeclaringClass() != BoathouseKey.class) continue;
            holds(example.contains("x." + m.getName() + "("), m.getName() + " is not shown");
        }
    }

    /** Each call of the example becomes a row of its answer and the answer that stands behind it. */
    private static String sourceOf(String helper, String example) {
        StringBuilder body = new StringBuilder();
        for (String line : example.split("\n")) {
            Matcher call = CALL.matcher(line);
            if (call.matches()) {
                body.append("due(\"").append(call.group(1).replace("\"", "\\\"")).append("\", ").append(call.group(2))
                    .append("L, ").append(call.group(1)).append(");\n");
            } else {
                boolean plain = line.isEmpty() || line.startsWith("//") || line.equals("BoathouseKey x = new BoathouseKey();");
                holds(plain, "neither a call with its answer nor a heading: " + line);
                body.append(line).append("\n");
            }
        }
        return "public final class ReadmeExample {\n"
            + "static String said = \"\"; static int rows = 0;\n"
            + "static void due(String call, long want, long got) {\n"
            + "rows++; if (want != got) said += call + \" answers \" + got + \", not \" + want + \"\\n\";\n}\n"
            + helper
            + "public static String run() {\n" + body + "return rows + \" rows\\n\" + said;\n}\n}\n";
    }

    private static void runExample(String source) throws IOException, ReflectiveOperationException {
        Path dir = Files.createTempDirectory("readme");
        Path file = dir.resolve("ReadmeExample.java");
        Files.writeString(file, source);
        JavaCompiler compiler = ToolProvider.getSystemJavaCompiler();
        int exit = compiler.run(null, null, null, "--release", "17", "-cp", System.getProperty("java.class.path"),
            "-d", dir.toString(), file.toString());
        holds(exit == 0, "the example can't be compiled");
        if (exit == 0) {
            try (URLClassLoader loader = new URLClassLoader(new URL[] {dir.toUri().toURL()})) {
                String[] said = ((String) loader.loadClass("ReadmeExample").getMethod("run").invoke(null)).split("\n");
                holds(!said[0].equals("0 rows"), "the example calls nothing");
                for (int i = 1; i < said.length; i++) holds(false, said[i]);
            }
        }
        for (File made : dir.toFile().listFiles()) Files.delete(made.toPath());
        Files.delete(dir);
    }

    private static void namesItsTests(String readme) throws IOException {
        try (Stream<Path> files = Files.list(Path.of("tests"))) {
            for (Path file : (Iterable<Path>) files::iterator) {
                String name = "tests/" + file.getFileName();
                if (TEST.matcher(name).matches()) holds(readme.contains(name), "does not name " + name);
            }
        }
        for (Matcher m = TEST.matcher(readme); m.find();) holds(Files.exists(Path.of(m.group())), "there is no " + m.group());
        holds(readme.contains(".ci/run"), "does not say how the tests are run");
    }
}
