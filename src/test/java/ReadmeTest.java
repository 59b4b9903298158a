import java.io.IOException;
import java.lang.reflect.Method;
import java.lang.reflect.Modifier;
import java.net.MalformedURLException;
import java.net.URL;
import java.net.URLClassLoader;
import java.nio.file.Files;
import java.nio.file.Path;
import java.util.ArrayList;
import java.util.List;
import java.util.Set;
import java.util.TreeSet;
import java.util.function.BiConsumer;
import java.util.regex.Matcher;
import java.util.regex.Pattern;
import java.util.stream.Stream;
import javax.tools.ToolProvider;

/** What README.md shows: its Java compiles as it stands there, and each call has the answer behind it. */
public final class ReadmeTest {
    private static final Check CHECK = new Check("ReadmeTest");

    private static final Pattern BLOCK = Pattern.compile("(?s)```java\n(.*?)```");
    /** A call, and behind it the answer up to the first colon. */
    private static final Pattern SHOWN = Pattern.compile("(\\w+\\.(\\w+)\\(.*?\\)); +// ([^:]+).*");

    public static void main(String[] args) throws Exception {
        String page = Files.readString(Path.of("README.md"));
        Set<String> calls = new TreeSet<>();
        runsAsShown(page, calls);
        showsEachCall(calls);
        must("an example of the constructor", page.contains("SlabYard yard = new SlabYard();"));
        namesEachConstant(page);
        listsEachTest(page);
        CHECK.end();
    }

    private static void must(String what, boolean holds) {
        CHECK.due(what, holds ? 1 : 0, 1);
    }

    private static void runsAsShown(String page, Set<String> calls) throws Exception {
        Path folder = Files.createTempDirectory("readme");
        Path source = folder.resolve("Shown.java");
        Files.writeString(source, program(page, calls));
        int failed = ToolProvider.getSystemJavaCompiler().run(null, null, null,
            "-cp", System.getProperty("java.class.path"), "-d", folder.toString(), source.toString());
        CHECK.due("javac of what is shown", failed, 0);
        if (failed == 0) {
            run(folder);
        }
        try (Stream<Path> files = Files.list(folder)) {
            for (Path file : files.toList()) {
                Files.delete(file);
            }
        }
        Files.delete(folder);
    }

    private static void run(Path folder) throws MalformedURLException, IOException, ReflectiveOperationException {
        BiConsumer<String, long[]> due = (call, gotAndWant) -> CHECK.due(call, gotAndWant[0], gotAndWant[1]);
        try (URLClassLoader loader = new URLClassLoader(new URL[] {folder.toUri().toURL()})) {
            loader.loadClass("Shown").getMethod("run", BiConsumer.class).invoke(null, due);
        }
    }

    /** A block that begins with a method is the class's, any other is a part of the one run. */
    private static String program(String page, Set<String> calls) {
        StringBuilder methods = new StringBuilder();
        StringBuilder run = new StringBuilder();
        Matcher blocks = BLOCK.matcher(page);
        while (blocks.find()) {
            if (blocks.group(1).startsWith("static ")) {
                methods.append(blocks.group(1));
            } else {
                run.append(statements(blocks.group(1), calls));
            }
        }
        return "public final class Shown {\n"
            + "static final int BAD = SlabYard.BAD, STATE = SlabYard.STATE, FULL = SlabYard.FULL,\n"
            + "NONE = SlabYard.NONE, NO = SlabYard.NO;\n"
            + methods
            + "public static void run(java.util.function.BiConsumer<String, long[]> due) {\n" + run + "}\n}\n";
    }

    private static String statements(String block, Set<String> calls) {
        List<String> lines = new ArrayList<>();
        for (String line : block.split("\n")) {
            Matcher shown = SHOWN.matcher(line);
            if (shown.matches()) {
                calls.add(shown.group(2));
                lines.add("due.accept(\"" + shown.group(1).replace("\"", "\\\"") + "\", new long[] {"
                    + shown.group(1) + ", " + shown.group(3) + "});");
            } else {
                must("an answer is shown of: " + line, !line.matches("\\w+\\.\\w+\\(.*"));
                lines.add(line);
            }
        }
        return String.join("\n", lines) + "\n";
    }

    private static void showsEachCall(Set<String> calls) {
        for (Method method : SlabYard.class.getDeclaredMethods()) {
            if (Modifier.isPublic(method.getModifiers())) {
                must("an example of " + method.getName(), calls.contains(method.getName()));
            }
        }
    }

    private static void namesEachConstant(String page) {
        for (String constant : List.of("BAD` (-1)", "STATE` (-2)", "FULL` (-3)", "NONE` (-9)", "NO`, -1000000")) {
            must("told: " + constant, page.contains("`" + constant));
        }
    }

    private static void listsEachTest(String page) throws IOException {
        Set<String> tests = new TreeSet<>();
        try (Stream<Path> files = Files.list(Path.of("src/test/java"))) {
            files.map(file -> file.getFileName().toString().replace(".java", ""))
                .filter(name -> name.endsWith("Test")).forEach(tests::add);
        }
        Set<String> listed = new TreeSet<>();
        Matcher names = Pattern.compile("`(\\w+Test)`").matcher(page.substring(page.indexOf("| test |")));
        while (names.find()) {
            listed.add(names.group(1));
        }
        must("tests listed: " + listed + ", there are: " + tests, listed.equals(tests));
        must("how the tests are run", page.contains("    .ci/run\n"));
    }
}
