import java.io.File;
import java.lang.reflect.Method;
import java.lang.reflect.Modifier;
import java.net.URL;
import java.net.URLClassLoader;
import java.nio.file.Files;
import java.nio.file.Path;
import java.util.ArrayList;
import java.util.List;
import java.util.regex.Matcher;
import java.util.regex.Pattern;
import java.util.stream.Stream;
import javax.tools.JavaCompiler;
import javax.tools.ToolProvider;

/**
 * That what README.md shows is so: its Java is compiled as it stands and run as one program, and
 * each call's answer must be the number that the line's comment shows.
 */
public final class ReadmeTest {
    private static final String NEW_OBJECT = "ProjectiveRows x = new ProjectiveRows();";
    private static final Pattern LINE = Pattern.compile(
        "((?:[^;]+; ?)+?) *// (-?\\d+(?:, -?\\d+)*)(?:: .+)?");
    private static final Pattern CALL = Pattern.compile(
        "(?:(int|long) (\\w+) = )?(x\\.\\w+\\([^()]*\\))");

    public static void main(String[] args) throws Exception {
        String text = Files.readString(Path.of("README.md"));
        List<String> program = program(text);
        Check.due("README.md shows calls", program.size() > 1);
        if (program.size() > 1) {
            run(program);
        }
        callsAreNamed(text);
        numbersBelowZero(text);
        testsAreNamed(text);
        Check.due("README.md says how the tests are run", text.contains(".ci/run"));
        Check.end("ReadmeTest");
    }

    /** The statements of README.md, each call followed by a look at its answer. */
    private static List<String> program(String text) {
        List<String> program = new ArrayList<>();
        Matcher block = Pattern.compile("(?s)```java\n(.*?)```").matcher(text);
        while (block.find()) {
            for (String line : block.group(1).split("\n")) {
                if (line.equals(NEW_OBJECT)) {
                    program.add(line);
                } else if (!line.isBlank()) {
                    program.addAll(statements(line));
                }
            }
        }
        return program;
    }

    private static List<String> statements(String line) {
        List<String> found = new ArrayList<>();
        Matcher parts = LINE.matcher(line);
        Check.due("README.md shows the answers of: " + line, parts.matches());
        if (!parts.matches()) {
            return found;
        }
        String[] calls = parts.group(1).trim().split("; ?");
        String[] answers = parts.group(2).split(", ");
        Check.due("README.md, as many answers as calls: " + line, answers.length, calls.length);
        for (int k = 0; k < calls.length && k < answers.length; k++) {
            Matcher call = CALL.matcher(calls[k].trim());
            Check.due("README.md, a call: " + calls[k], call.matches());
            if (call.matches()) {
                String what = "\"README.md, " + calls[k].trim() + "\"";
                boolean isNamed = call.group(2) != null;
                found.add(isNamed ? calls[k].trim() + ";" : "");
                found.add("due.due(" + what + ", " + (isNamed ? call.group(2) : call.group(3)) + ", "
                    + answers[k] + "L);");
            }
        }
        return found;
    }

    /** What the program calls: it is compiled elsewhere, and sees public classes alone. */
    public interface Due {
        void due(String what, long got, long want);
    }

    public interface Program {
        void run(Due due);
    }

    private static void run(List<String> program) throws Exception {
        Path directory = Files.createTempDirectory("readme");
        try {
            Path file = directory.resolve("ReadmeProgram.java");
            Files.writeString(file, "public final class ReadmeProgram implements ReadmeTest.Program {\n"
                + "public void run(ReadmeTest.Due due) {\n" + String.join("\n", program) + "\n}\n}\n");
            JavaCompiler compiler = ToolProvider.getSystemJavaCompiler();
            Check.due("there is a compiler", compiler != null);
            String path = new File(ReadmeTest.class.getProtectionDomain().getCodeSource()
                .getLocation().toURI()).getPath();
            int status = compiler == null ? 1 : compiler.run(null, System.out, System.out, "-cp", path,
                "-d", directory.toString(), file.toString());
            Check.due("README.md compiles", status, 0);
            if (status == 0) {
                runMade(directory);
            }
        } finally {
            remove(directory);
        }
    }

    private static void runMade(Path directory) throws Exception {
        URL[] place = {directory.toUri().toURL()};
        try (URLClassLoader loader = new URLClassLoader(place, ReadmeTest.class.getClassLoader())) {
            Object made = loader.loadClass("ReadmeProgram").getDeclaredConstructor().newInstance();
            ((Program) made).run(Check::due);
        }
    }

    private static void remove(Path directory) throws Exception {
        try (Stream<Path> files = Files.list(directory)) {
            for (Path file : files.toList()) {
                Files.delete(file);
            }
        }
        Files.delete(directory);
    }

    /** Each call of the face: told of, and shown in the Java. */
    private static void callsAreNamed(String text) {
        for (Method m : ProjectiveRows.class.getDeclaredMethods()) {
            if (Modifier.isPublic(m.getModifiers())) {
                Check.due("README.md tells of " + m.getName(), text.contains("`" + m.getName() + "("));
                Check.due("README.md shows " + m.getName(), text.contains("x." + m.getName() + "("));
            }
        }
    }

    private static void numbersBelowZero(String text) {
        Check.due("README.md tells of NONE", text.contains("`NONE` (" + ProjectiveRows.NONE + ")"));
        Check.due("README.md tells of BAD", text.contains("`BAD` (" + ProjectiveRows.BAD + ")"));
        Check.due("README.md tells of FULL", text.contains("`FULL` (" + ProjectiveRows.FULL + ")"));
    }

    private static void testsAreNamed(String text) throws Exception {
        try (Stream<Path> files = Files.list(Path.of("src/test/java"))) {
            for (Path file : files.toList()) {
                String name = file.getFileName().toString().replace(".java", "");
                Check.due("README.md tells of " + name, text.contains("`" + name + "`"));
            }
        }
    }
}
