import java.io.IOException;
import java.lang.reflect.Method;
import java.lang.reflect.Modifier;
import java.net.URL;
import java.net.URLClassLoader;
import java.nio.file.DirectoryStream;
import java.nio.file.Files;
import java.nio.file.Path;
import java.util.ArrayList;
import java.util.List;
import java.util.regex.Matcher;
import java.util.regex.Pattern;
import javax.tools.ToolProvider;

/** README.md as it stands: its examples answer what it says, and it names every call and every test. */
public final class ReadmeTest {
    private static final Pattern ANSWERED = Pattern.compile("(.*?);\\s*// (-?\\d+)\\b.*");

    private ReadmeTest() {
    }

    public static void main(String[] args) throws IOException, ReflectiveOperationException {
        String page = Files.readString(Path.of("README.md"));
        namesCalls(page);
        namesTests(page);
        runExamples(page);
        Check.end("ReadmeTest");
    }

    private static void namesCalls(String page) {
        for (Method method : TownForest.class.getDeclaredMethods()) {
            if (Modifier.isPublic(method.getModifiers())) {
                named(page, method.getName());
            }
        }
    }

    private static void namesTests(String page) throws IOException {
        try (DirectoryStream<Path> tests = Files.newDirectoryStream(Path.of("src/test/java"), "*Test.java")) {
            for (Path test : tests) {
                named(page, test.getFileName().toString().replace(".java", ""));
            }
        }
    }

    private static void named(String page, String name) {
        Check.due("README.md names " + name, page.contains("`" + name + "`") ? 1 : 0, 1);
    }

    /** The first example is a method, the second one uses it; they are compiled as one class. */
    private static void runExamples(String page) throws IOException, ReflectiveOperationException {
        List<String> blocks = new ArrayList<>();
        Matcher m = Pattern.compile("(?s)```java\n(.*?)```").matcher(page);
        while (m.find()) {
            blocks.add(m.group(1));
        }
        Check.due("examples in README.md", blocks.size(), 2);
        if (blocks.size() != 2) {
            return;
        }
        List<String> calls = new ArrayList<>();
        List<Integer> due = new ArrayList<>();
        StringBuilder body = new StringBuilder();
        for (String line : blocks.get(1).split("\n")) {
            Matcher answered = ANSWERED.matcher(line);
            if (answered.matches()) {
                body.append("answers.add(").append(answered.group(1)).append(");\n");
                calls.add(answered.group(1));
                due.add(Integer.valueOf(answered.group(2)));
            } else {
                body.append(line).append('\n');
            }
        }
        Object answers = answersOf("public final class Example {\n" + blocks.get(0)
                + "public static java.util.List<Integer> run() {\njava.util.List<Integer> answers"
                + " = new java.util.ArrayList<>();\n" + body + "return answers;\n}\n}\n");
        Check.due("answers of README.md", calls.size() > 10 ? 1 : 0, 1);
        Check.due("README.md, all answers as " + due + ": " + answers, due.equals(answers) ? 1 : 0, 1);
    }

    private static Object answersOf(String source) throws IOException, ReflectiveOperationException {
        Path room = Files.createTempDirectory("readme");
        Path file = room.resolve("Example.java");
        Path made = room.resolve("Example.class");
        try {
            Files.writeString(file, source);
            int code = ToolProvider.getSystemJavaCompiler().run(null, null, null, "-d", room.toString(),
                    "-cp", System.getProperty("java.class.path"), file.toString());
            Check.due("README.md's examples compile", code, 0);
            if (code != 0) {
                return null;
            }
            try (URLClassLoader loader = new URLClassLoader(new URL[] {room.toUri().toURL()})) {
                return loader.loadClass("Example").getMethod("run").invoke(null);
            }
        } finally {
            Files.deleteIfExists(file);
            Files.deleteIfExists(made);
            Files.deleteIfExists(room);
        }
    }
}
