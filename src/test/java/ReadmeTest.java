import java.io.ByteArrayOutputStream;
import java.io.IOException;
import java.io.PrintStream;
import java.lang.reflect.Method;
import java.lang.reflect.Modifier;
import java.net.URL;
import java.net.URLClassLoader;
import java.nio.file.Files;
import java.nio.file.Path;
import java.util.Comparator;
import java.util.List;
import java.util.stream.Stream;

/** README.md: its example is compiled and prints what stands there, and it names all calls and tests. */
public final class ReadmeTest {
    private static int wrong = 0;

    private static void check(boolean holds, String fault) {
        if (!holds) {
            wrong++;
            System.out.println(fault);
        }
    }

    public static void main(String[] args) throws Exception {
        Path project = Path.of(System.getProperty("dialogue.project", ".")).toAbsolutePath();
        String readme = Files.readString(project.resolve("README.md"));
        String printed = outputOf(block(readme, "java"));
        check(printed.equals(block(readme, "text")), "the example of README.md prints\n" + printed);
        checkNames(readme, project.resolve("src/test/java"));
        System.out.println(wrong == 0 ? "README.md is as due" : wrong + " faults of README.md");
        if (wrong != 0) System.exit(1);
    }

    private static String block(String readme, String language) {
        String start = "```" + language + "\n";
        int from = readme.indexOf(start);
        int end = readme.indexOf("```", from + start.length());
        check(from >= 0 && end >= 0, "README.md has no block of " + language);
        return from >= 0 && end >= 0 ? readme.substring(from + start.length(), end) : "";
    }

    private static void checkNames(String readme, Path tests) throws IOException {
        for (Method method : DialogueGames.class.getDeclaredMethods()) {
            if (Modifier.isPublic(method.getModifiers())) check(readme.contains("`" + method.getName() + "`"), "README.md does not name " + method.getName());
        }
        try (Stream<Path> files = Files.list(tests)) {
            for (Path file : files.toList()) check(readme.contains("`src/test/java/" + file.getFileName() + "`"), "README.md does not name " + file.getFileName());
        }
    }

    private static String outputOf(String program) throws Exception {
        Path room = Files.createTempDirectory("readme");
        try {
            Path file = Files.writeString(room.resolve("Example.java"), program);
            // the command that .ci/run uses too, for a java without a compiler inside can be first on the path
            int failed = new ProcessBuilder("javac", "--release", "17", "-cp", System.getProperty("java.class.path"), "-d", room.toString(), file.toString())
                .inheritIO().start().waitFor();
            check(failed == 0, "the example of README.md does not compile");
            return failed == 0 ? run(room) : "";
        } finally {
            remove(room);
        }
    }

    private static String run(Path room) throws Exception {
        PrintStream before = System.out;
        ByteArrayOutputStream printed = new ByteArrayOutputStream();
        try (URLClassLoader loader = new URLClassLoader(new URL[] {room.toUri().toURL()}, ReadmeTest.class.getClassLoader())) {
            System.setOut(new PrintStream(printed, true, "UTF-8"));
            loader.loadClass("Example").getMethod("main", String[].class).invoke(null, (Object) new String[0]);
        } finally {
            System.setOut(before);
        }
        return printed.toString("UTF-8").replace("\r\n", "\n");
    }

    private static void remove(Path room) throws IOException {
        List<Path> all;
        try (Stream<Path> files = Files.walk(room)) {
            all = files.sorted(Comparator.reverseOrder()).toList();
        }
        for (Path file : all) Files.delete(file);
    }
}
