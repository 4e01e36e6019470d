import java.io.File;
import java.io.IOException;
import java.lang.reflect.Method;
import java.lang.reflect.Modifier;
import java.nio.charset.StandardCharsets;
import java.nio.file.Files;
import java.nio.file.Path;
import java.util.regex.Matcher;
import java.util.regex.Pattern;
import java.util.stream.Stream;

/** README.md holds what it says: its program prints what stands there, and it names all calls and all tests. */
public final class ReadmeTest {
    private static final Desks DESKS = new Desks("ReadmeTest");

    public static void main(String[] args) throws IOException, InterruptedException {
        Path root = Path.of(args.length > 0 ? args[0] : ".");
        String readme = Files.readString(root.resolve("README.md"));
        DESKS.due("the program of README.md prints", printed(block(readme, "java")), block(readme, "text"));
        namesCalls(readme);
        namesTests(readme, root);
        DESKS.close();
    }

    private static String block(String readme, String kind) {
        Matcher found = Pattern.compile("```" + kind + "\n(.*?)```", Pattern.DOTALL).matcher(readme);
        return found.find() ? found.group(1) : "no block of " + kind;
    }

    private static String printed(String program) throws IOException, InterruptedException {
        Path work = Files.createTempDirectory("readme");
        try {
            Path source = Files.writeString(work.resolve("Example.java"), program);
            String classes = System.getProperty("java.class.path");
            String told = told("javac", "-encoding", "UTF-8", "-cp", classes, "-d", work.toString(), source.toString());
            return told.isEmpty() ? told("java", "-cp", work + File.pathSeparator + classes, "Example") : told;
        } finally {
            for (String name : new String[] {"Example.java", "Example.class", ""}) {
                Files.deleteIfExists(work.resolve(name));
            }
        }
    }

    private static String told(String... command) throws IOException, InterruptedException {
        Process run = new ProcessBuilder(command).redirectError(ProcessBuilder.Redirect.INHERIT).start();
        String told = new String(run.getInputStream().readAllBytes(), StandardCharsets.UTF_8);
        return run.waitFor() == 0 ? told : command[0] + " fails: " + told;
    }

    private static void namesCalls(String readme) {
        for (Method method : ClauseDesk.class.getDeclaredMethods()) {
            if (Modifier.isPublic(method.getModifiers())) {
                DESKS.due("README.md names " + method.getName(), readme.contains("`" + method.getName() + "`"), true);
            }
        }
    }

    private static void namesTests(String readme, Path root) throws IOException {
        try (Stream<Path> files = Files.list(root.resolve("src/test/java"))) {
            files.map(f -> f.getFileName().toString()).filter(f -> f.endsWith("Test.java")).forEach(f ->
                    DESKS.due("README.md names " + f, readme.contains("`" + f.replace(".java", "") + "`"), true));
        }
    }
}
