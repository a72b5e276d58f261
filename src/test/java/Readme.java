import java.io.IOException;
import java.lang.reflect.Method;
import java.lang.reflect.Modifier;
import java.net.URL;
import java.net.URLClassLoader;
import java.nio.file.Files;
import java.nio.file.Path;
import java.util.regex.Matcher;
import java.util.regex.Pattern;
import java.util.stream.Stream;
import javax.tools.ToolProvider;

/** README.md: its example answers what its comments tell, and it names every call and every test. */
public final class Readme {
    private static final Pattern CALL = Pattern.compile("(int (\\w+) = )?(books\\.\\w+\\(.*\\)); +// (-?\\d+)(: .*)?");
    private static int checks = 0;
    private static int wrong = 0;

    public static void main(String[] args) throws IOException, ReflectiveOperationException {
        String readme = Files.readString(Path.of("README.md"));
        runExample(programOf(readme));
        namesEveryCall(readme);
        namesEveryTest(readme);
        must(checks > 0, "README.md has an example");
        System.out.println(checks + " answers of README.md, " + (wrong == 0 ? "all as due" : wrong + " things are not as due"));
        if (wrong != 0) {
            System.exit(1);
        }
    }

    /** Called by the example. */
    public static void due(String call, long got, long want) {
        checks++;
        must(got == want, call + " answers " + want + ", but " + got);
    }

    private static void must(boolean so, String what) {
        if (!so) {
            wrong++;
            System.out.println("not so: " + what);
        }
    }

    /** All blocks of Java are one program, in which each answer is looked at. */
    private static String programOf(String readme) {
        StringBuilder program = new StringBuilder("public final class Example {\n    public static void run() {\n");
        Matcher block = Pattern.compile("(?s)```java\n(.*?)```").matcher(readme);
        while (block.find()) {
            for (String line : block.group(1).split("\n")) {
                program.append(checked(line)).append('\n');
            }
        }
        return program.append("    }\n}\n").toString();
    }

    private static String checked(String line) {
        Matcher call = CALL.matcher(line);
        if (!call.matches()) {
            must(!line.contains("books."), "a comment tells the answer of '" + line + "'");
            return line;
        }
        String answer = call.group(2) == null ? call.group(3) : call.group(2);
        String first = call.group(2) == null ? "" : call.group(1) + call.group(3) + "; ";
        return first + "Readme.due(\"" + call.group(3) + "\", " + answer + ", " + call.group(4) + ");";
    }

    private static void runExample(String program) throws IOException, ReflectiveOperationException {
        Path folder = Files.createTempDirectory("readme");
        Path source = folder.resolve("Example.java");
        Path made = folder.resolve("Example.class");
        Files.writeString(source, program);
        String[] options = {"-cp", System.getProperty("java.class.path"), "-d", folder.toString(), source.toString()};
        boolean compiles = ToolProvider.getSystemJavaCompiler().run(null, null, null, options) == 0;
        must(compiles, "the example of README.md compiles");
        if (compiles) {
            try (URLClassLoader loader = new URLClassLoader(new URL[] {folder.toUri().toURL()})) {
                loader.loadClass("Example").getMethod("run").invoke(null);
            }
        }
        Files.deleteIfExists(made);
        Files.delete(source);
        Files.delete(folder);
    }

    private static void namesEveryCall(String readme) {
        for (Method call : ChainBooks.class.getDeclaredMethods()) {
            if (Modifier.isPublic(call.getModifiers())) {
                must(readme.contains("| `" + call.getName() + "("), "README.md tells what " + call.getName() + "() is for");
            }
        }
    }

    private static void namesEveryTest(String readme) throws IOException {
        try (Stream<Path> tests = Files.list(Path.of("src/test/java"))) {
            for (Path test : tests.toList()) {
                String name = test.getFileName().toString().replaceAll("^SentencesOf.*", "SentencesOf*.java");
                must(readme.contains("src/test/java/" + name), "README.md names the test " + name);
            }
        }
    }
}
