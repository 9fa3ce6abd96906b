import java.io.IOException;
import java.lang.reflect.Method;
import java.lang.reflect.Modifier;
import java.net.URL;
import java.net.URLClassLoader;
import java.nio.file.Files;
import java.nio.file.Path;
import java.util.List;
import java.util.regex.Matcher;
import java.util.regex.Pattern;

/** The examples of README.md compile and answer what their comments say, and it names each call of the face. */
public final class ReadmeTest {
    private static final Checks CHECKS = new Checks();
    private static final Pattern EXAMPLE = Pattern.compile("(?ms)^```java\n(.*?)^```");
    /* A call whose comment begins with its answer; it may give a name to it. */
    private static final Pattern ASKED = Pattern.compile("(?:int (\\w+) = )?(.*);\\s+// (-?[0-9]+|true|false)(?:: .*)?");

    public static void main(String[] args) throws IOException, InterruptedException, ReflectiveOperationException {
        String readme = Files.readString(Path.of("README.md"));
        namesEachCall(readme);
        run(program(readme));
        CHECKS.finish("ReadmeTest");
    }

    /** The examples call it, each answer with the one that the comment tells. */
    public static void due(String call, long got, long want) {
        CHECKS.due("README.md: " + call, got, want);
    }

    public static void due(String call, boolean got, boolean want) {
        CHECKS.due("README.md: " + call, got, want);
    }

    private static void namesEachCall(String readme) {
        for (Method method : ClothesHorses.class.getDeclaredMethods()) {
            if (Modifier.isPublic(method.getModifiers())) {
                String call = "`" + method.getName() + "(";
                CHECKS.due("README.md tells " + call, readme.contains(call), true);
            }
        }
        for (String how : List.of("## How to use the class", "## How to run the tests", ".ci/run")) {
            CHECKS.due("README.md has " + how, readme.contains(how), true);
        }
    }

    /** All examples as one class: what is static beside main, all else in it, in their order. */
    private static String program(String readme) {
        StringBuilder beside = new StringBuilder();
        StringBuilder main = new StringBuilder();
        Matcher example = EXAMPLE.matcher(readme);
        while (example.find()) {
            if (example.group(1).startsWith("static ")) {
                beside.append(example.group(1));
            } else {
                example.group(1).lines().forEach(line -> main.append(asked(line)).append('\n'));
            }
        }
        return "public final class Readme {\n" + beside + "public static void main(String[] args) {\n" + main + "}\n}\n";
    }

    private static String asked(String line) {
        Matcher asked = ASKED.matcher(line);
        if (!asked.matches()) {
            return line;
        }
        String name = asked.group(1);
        String call = asked.group(2);
        String told = "\"" + call.replace("\"", "'") + "\"";
        return name == null ? "ReadmeTest.due(" + told + ", " + call + ", " + asked.group(3) + ");"
            : "int " + name + " = " + call + ";\nReadmeTest.due(" + told + ", " + name + ", " + asked.group(3) + ");";
    }

    private static void run(String program) throws IOException, InterruptedException, ReflectiveOperationException {
        Path out = Files.createTempDirectory("readme");
        Path source = out.resolve("Readme.java");
        try {
            Files.writeString(source, program);
            int status = new ProcessBuilder("javac", "-cp", System.getProperty("java.class.path"), "-d", out.toString(),
                source.toString()).inheritIO().start().waitFor();
            CHECKS.due("README.md: the examples compile", status, 0);
            if (status == 0) {
                try (URLClassLoader loader = new URLClassLoader(new URL[] {out.toUri().toURL()})) {
                    loader.loadClass("Readme").getMethod("main", String[].class).invoke(null, (Object) new String[0]);
                }
            }
        } finally {
            for (Path path : List.of(source, out.resolve("Readme.class"), out)) {
                Files.deleteIfExists(path);
            }
        }
    }
}
