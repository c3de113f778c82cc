import java.io.IOException;
import java.lang.reflect.Method;
import java.lang.reflect.Modifier;
import java.net.URL;
import java.net.URLClassLoader;
import java.nio.file.DirectoryStream;
import java.nio.file.Files;
import java.nio.file.Path;
import java.util.ArrayList;
import java.util.List;
import java.util.regex.Matcher;
import java.util.regex.Pattern;
import javax.tools.ToolProvider;

/**
 * What README.md shows as a use of the class: its java blocks, one behind the other, are compiled as they stand
 * together with the class, and each call must answer what is named behind it. No call of the class and no test
 * of the project may be left out.
 */
public final class ReadmeTest {
    private static final Path README = Path.of("README.md");
    private static final Path SOURCE = Path.of("src/main/java/TwoEyes.java");
    private static final Path TESTS = Path.of("src/test/java");
    private static final Pattern BLOCK = Pattern.compile("(?ms)^```java\\n(.*?)^```$");
    private static final String NEW_OBJECT = "TwoEyes eyes = new TwoEyes();";
    /** A call, what it answers (a number, a truth value or a constant), and what that means. */
    private static final Pattern CALL =
        Pattern.compile("(eyes\\.(\\w+)\\([^()]*\\)); +// (-?\\d+|true|false|TwoEyes\\.[A-Z]+): \\S.*");
    private static final int MOST_CALLS = 512;

    private static int wrong = 0;

    private ReadmeTest() {
    }

    public static void main(String[] args) throws IOException, ReflectiveOperationException {
        String readme = Files.readString(README).replace("\r", "");
        List<String> lines = shownLines(readme);
        List<Matcher> calls = callsOf(lines);
        everyCallIsShown(calls);
        everyTestIsNamed(readme);
        if (wrong == 0) {
            answersHold(lines, calls);
        }
        System.out.println(wrong == 0 ? calls.size() + " calls answer what README.md says" : wrong + " faults of README.md");
        if (wrong != 0) {
            System.exit(1);
        }
    }

    private static List<String> shownLines(String readme) {
        List<String> lines = new ArrayList<>();
        Matcher blocks = BLOCK.matcher(readme);
        while (blocks.find()) {
            lines.addAll(blocks.group(1).lines().toList());
        }
        return lines;
    }

    /** The first line makes the object, each other one is a call with its answer. */
    private static List<Matcher> callsOf(List<String> lines) {
        List<Matcher> calls = new ArrayList<>();
        check(!lines.isEmpty() && lines.get(0).equals(NEW_OBJECT), "the first line should be: " + NEW_OBJECT);
        for (int i = 1; i < lines.size(); i++) {
            Matcher call = CALL.matcher(lines.get(i));
            check(call.matches(), "no call with its answer: " + lines.get(i));
            calls.add(call);
        }
        check(calls.size() <= MOST_CALLS, "too many calls for one object");
        return calls;
    }

    private static void everyCallIsShown(List<Matcher> calls) {
        for (Method method : TwoEyes.class.getDeclaredMethods()) {
            boolean shown = !Modifier.isPublic(method.getModifiers());
            for (Matcher call : calls) {
                shown = shown || call.matches() && call.group(2).equals(method.getName());
            }
            check(shown, "no use is shown of " + method.getName());
        }
    }

    private static void everyTestIsNamed(String readme) throws IOException {
        try (DirectoryStream<Path> files = Files.newDirectoryStream(TESTS, "*Test.java")) {
            for (Path file : files) {
                String name = file.getFileName().toString().replace(".java", "");
                check(readme.contains("- `" + name + "`: "), "it doesn't say what is tested by " + name);
            }
        }
        Matcher named = Pattern.compile("`(\\w+Test)`").matcher(readme);
        while (named.find()) {
            check(Files.exists(TESTS.resolve(named.group(1) + ".java")), "there is no " + named.group(1));
        }
    }

    private static void answersHold(List<String> lines, List<Matcher> calls)
        throws IOException, ReflectiveOperationException {
        Path room = Files.createTempDirectory("readme");
        try {
            Path program = Files.writeString(room.resolve("Use.java"), program(lines, calls));
            Path out = Files.createDirectory(room.resolve("out"));
            int exit = ToolProvider.getSystemJavaCompiler()
                .run(null, null, null, "-d", out.toString(), SOURCE.toString(), program.toString());
            check(exit == 0, "what it shows does not compile");
            if (exit == 0) {
                wrong += countWrong(out);
            }
        } finally {
            delete(room);
        }
    }

    /** The lines as they stand, which must compile and run, and once more with a look at each answer. */
    private static String program(List<String> lines, List<Matcher> calls) {
        StringBuilder text = new StringBuilder("public final class Use {\n");
        text.append("  static int wrong = 0;\n");
        text.append("  static void due(String call, Object got, Object want) {\n");
        text.append("    if (!got.equals(want)) {\n");
        text.append("      wrong++;\n");
        text.append("      System.out.println(call + \" answered \" + got + \", README.md says \" + want);\n");
        text.append("    }\n");
        text.append("  }\n");
        text.append("  static void asItStands() {\n");
        lines.forEach(line -> text.append("    ").append(line).append('\n'));
        text.append("  }\n");
        text.append("  public static int countWrong() {\n");
        text.append("    asItStands();\n");
        text.append("    ").append(NEW_OBJECT).append('\n');
        for (Matcher call : calls) {
            text.append("    due(\"").append(call.group(1)).append("\", ").append(call.group(1)).append(", ")
                .append(call.group(3)).append(");\n");
        }
        return text.append("    return wrong;\n  }\n}\n").toString();
    }

    /** With a loader that knows just what has been compiled there, not the classes of this test. */
    private static int countWrong(Path out) throws IOException, ReflectiveOperationException {
        URL[] there = {out.toUri().toURL()};
        try (URLClassLoader loader = new URLClassLoader(there, ClassLoader.getPlatformClassLoader())) {
            return (Integer) loader.loadClass("Use").getMethod("countWrong").invoke(null);
        }
    }

    private static void delete(Path path) throws IOException {
        if (Files.isDirectory(path)) {
            try (DirectoryStream<Path> inside = Files.newDirectoryStream(path)) {
                for (Path each : inside) {
                    delete(each);
                }
            }
        }
        Files.delete(path);
    }

    private static void check(boolean holds, String fault) {
        if (!holds) {
            wrong++;
            System.out.println(fault);
        }
    }
}
