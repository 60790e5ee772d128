import java.io.IOException;
import java.lang.reflect.Method;
import java.lang.reflect.Modifier;
import java.net.URL;
import java.net.URLClassLoader;
import java.nio.file.Files;
import java.nio.file.Path;
import java.util.regex.Matcher;
import java.util.regex.Pattern;
import java.util.stream.Stream;
import javax.tools.ToolProvider;

/** README.md: its example answers what it says, and each call of the face is told. .ci/run starts it in the root. */
public final class ReadmeTest {
    private static final Pattern ANSWERS = Pattern.compile("(station\\..*\\)); *// answers (-?\\d+)\\b.*");

    public static void main(String[] args) throws IOException, ReflectiveOperationException {
        Due due = new Due("ReadmeTest");
        String readme = Files.readString(Path.of("README.md"));
        for (Method method : CrushLoad.class.getDeclaredMethods()) {
            if (Modifier.isPublic(method.getModifiers())) {
                due.is(method.getName() + " is told with all its arguments", isTold(readme, method), true);
            }
        }
        for (String test : tests()) {
            due.is(test + " is told", readme.contains("`" + test + "`"), true);
        }
        playExample(due, readme);
        due.end();
    }

    private static boolean isTold(String readme, Method method) {
        StringBuilder call = new StringBuilder("\\| `" + method.getName() + "\\(");
        for (int i = 0; i < method.getParameterCount(); i++) {
            call.append(i == 0 ? "" : ", ").append("\\w+");
        }
        return Pattern.compile(call + "\\)` \\|").matcher(readme).find();
    }

    private static String[] tests() throws IOException {
        try (Stream<Path> files = Files.list(Path.of("src/test/java"))) {
            return files.map(file -> file.getFileName().toString()).filter(name -> name.endsWith("Test.java"))
                    .map(name -> name.replace(".java", "")).sorted().toArray(String[]::new);
        }
    }

    /** Compiles the example as it stands, each answer of it with what it says there, and plays it. */
    private static void playExample(Due due, String readme) throws IOException, ReflectiveOperationException {
        Matcher example = Pattern.compile("```java\\n(.*?)```", Pattern.DOTALL).matcher(readme);
        due.is("there is an example", example.find(), true);
        StringBuilder code = new StringBuilder("public final class Example { public static long[] play() {\n");
        StringBuilder answers = new StringBuilder();
        for (String line : example.group(1).split("\n")) {
            Matcher answer = ANSWERS.matcher(line);
            if (answer.matches()) {
                code.append("answers[at++] = ").append(answer.group(1)).append(";\n");
                answers.append(answer.group(2)).append(' ');
            } else {
                due.is("a line without an answer: " + line, line.contains(" = "), true);
                code.append(line).append('\n');
            }
        }
        String[] wanted = answers.toString().strip().split(" ");
        code.insert(code.indexOf("\n"), " long[] answers = new long[" + wanted.length + "]; int at = 0;");
        code.append("return answers; } }\n");
        long[] got = play(code.toString());
        for (int i = 0; i < wanted.length; i++) {
            due.same("answer " + (i + 1) + " of the example", Long.toString(got[i]), wanted[i]);
        }
    }

    private static long[] play(String code) throws IOException, ReflectiveOperationException {
        Path directory = Files.createTempDirectory("example");
        Path source = directory.resolve("Example.java");
        Path made = directory.resolve("Example.class");
        try {
            Files.writeString(source, code);
            String classes = System.getProperty("java.class.path");
            int failed = ToolProvider.getSystemJavaCompiler().run(null, null, null,
                    "-cp", classes, "-d", directory.toString(), source.toString());
            if (failed != 0) {
                throw new IllegalStateException("the example does not compile");
            }
            URL[] there = {directory.toUri().toURL()};
            try (URLClassLoader loader = new URLClassLoader(there, ReadmeTest.class.getClassLoader())) {
                return (long[]) loader.loadClass("Example").getMethod("play").invoke(null);
            }
        } finally {
            Files.deleteIfExists(made);
            Files.deleteIfExists(source);
            Files.deleteIfExists(directory);
        }
    }
}
