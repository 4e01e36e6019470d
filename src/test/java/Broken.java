import java.io.File;
import java.io.IOException;
import java.nio.file.Files;
import java.nio.file.Path;
import java.util.ArrayList;
import java.util.LinkedHashMap;
import java.util.List;
import java.util.Map;
import java.util.concurrent.Callable;
import java.util.concurrent.ExecutorService;
import java.util.concurrent.Executors;
import java.util.concurrent.Future;
import java.util.concurrent.TimeUnit;
import java.util.regex.Matcher;
import java.util.regex.Pattern;
import java.util.stream.Stream;
import javax.tools.ToolProvider;

/**
 * By hand: breaks the class in each of the ways that src/test/broken.txt tells, and looks whether the test of the sentence
 * that is broken so finds it. Also looks whether each of these sentences stands in the document.
 */
public final class Broken {
    private static final Pattern SENTENCE = Pattern.compile("EDGES\\.sentence\\(\\s*((?:\"(?:[^\"\\\\]|\\\\.)*\"[\\s+]*)+)");
    private static final Pattern QUOTED = Pattern.compile("\"((?:[^\"\\\\]|\\\\.)*)\"");

    private final Path root;
    private final Path work;
    private final String source;
    private final Map<String, String> testOf = new LinkedHashMap<>();
    private final List<Breakage> breakages = new ArrayList<>();

    /** A way to break a sentence: the part of the source (and which one of those alike), and what stands there instead. */
    record Breakage(String sentence, int which, String right, String broken) {
    }

    private Broken(Path root) throws IOException {
        this.root = root;
        this.work = Files.createTempDirectory("broken");
        this.source = Files.readString(root.resolve("src/main/java/ClauseDesk.java"));
    }

    public static void main(String[] args) throws Exception {
        Broken broken = new Broken(Path.of(args.length > 0 ? args[0] : "."));
        broken.readSentences();
        broken.readBreakages();
        int faults = broken.lookAtDocument() + broken.lookAtSentences() + broken.run();
        System.out.println(broken.testOf.size() + " sentences, " + broken.breakages.size() + " breakages, " + faults + " faults");
        System.exit(faults == 0 ? 0 : 1);
    }

    private List<Path> tests() throws IOException {
        try (Stream<Path> files = Files.list(root.resolve("src/test/java"))) {
            return files.filter(f -> f.toString().endsWith(".java")).sorted().toList();
        }
    }

    private void readSentences() throws IOException {
        for (Path file : tests()) {
            Matcher told = SENTENCE.matcher(Files.readString(file));
            while (told.find()) {
                StringBuilder sentence = new StringBuilder();
                Matcher quoted = QUOTED.matcher(told.group(1));
                while (quoted.find()) {
                    sentence.append(quoted.group(1).replace("\\\"", "\""));
                }
                testOf.put(sentence.toString(), file.getFileName().toString().replace(".java", ""));
            }
        }
    }

    private void readBreakages() throws IOException {
        String sentence = "";
        int which = 1;
        String right = "";
        for (String told : Files.readAllLines(root.resolve("src/test/broken.txt"))) {
            // The sign of a line end, in quotes, stays as it is told.
            String line = told.replaceAll("\\\\n(?!')", "\n");
            if (line.startsWith("[")) {
                sentence = line.substring(1, line.length() - 1);
            } else if (line.startsWith("-")) {
                which = line.charAt(1) == ' ' ? 1 : line.charAt(1) - '0';
                right = line.substring(line.indexOf(' ') + 1);
            } else if (line.startsWith("+")) {
                breakages.add(new Breakage(sentence, which, right, line.length() > 2 ? line.substring(2) : ""));
            }
        }
    }

    /** A sentence can leave out parts of the document's, where it has two dots, and name a call ahead of it. */
    private int lookAtDocument() throws IOException {
        String document = Files.readString(root.resolve("../shared/DOC.md")).replace("`", "").replaceAll("\\s+", " ");
        int faults = 0;
        for (String sentence : testOf.keySet()) {
            String words = sentence.replaceFirst("^[a-zA-Z]+: (?=[a-zA-Z])", "");
            for (String part : words.split(" \\.\\. |(?<=[.]) (?=Throws|Returns)")) {
                if (!document.contains(part)) {
                    System.out.println("not in the document: " + part);
                    faults++;
                }
            }
        }
        return faults;
    }

    private int lookAtSentences() {
        int faults = 0;
        for (String sentence : testOf.keySet()) {
            if (breakages.stream().noneMatch(b -> b.sentence.equals(sentence))) {
                System.out.println("never broken: " + sentence);
                faults++;
            }
        }
        return faults;
    }

    private int run() throws Exception {
        Path classes = Files.createDirectory(work.resolve("tests"));
        List<String> files = new ArrayList<>(List.of("-d", classes.toString(), root.resolve("src/main/java/ClauseDesk.java").toString()));
        tests().forEach(f -> files.add(f.toString()));
        compile(files);
        ExecutorService workers = Executors.newFixedThreadPool(Runtime.getRuntime().availableProcessors());
        List<Future<String>> ends = new ArrayList<>();
        for (int i = 0; i < breakages.size(); i++) {
            Breakage breakage = breakages.get(i);
            Path place = Files.createDirectory(work.resolve("" + i));
            Callable<String> one = () -> tried(breakage, place, classes);
            ends.add(workers.submit(one));
        }
        int faults = 0;
        for (int i = 0; i < ends.size(); i++) {
            if (!ends.get(i).get().isEmpty()) {
                System.out.println(ends.get(i).get() + ": " + breakages.get(i));
                faults++;
            }
        }
        workers.shutdown();
        return faults;
    }

    private static boolean compile(List<String> arguments) {
        return ToolProvider.getSystemJavaCompiler().run(null, System.out, System.out, arguments.toArray(new String[0])) == 0;
    }

    /** Nothing, if the test of the sentence finds the breakage. */
    private String tried(Breakage breakage, Path place, Path classes) throws Exception {
        int at = -1;
        for (int i = 0; i < breakage.which; i++) {
            at = source.indexOf(breakage.right, at + 1);
            if (at < 0) {
                return "not in the source";
            }
        }
        if (!testOf.containsKey(breakage.sentence)) {
            return "no test of its own";
        }
        Path file = place.resolve("ClauseDesk.java");
        Files.writeString(file, source.substring(0, at) + breakage.broken + source.substring(at + breakage.right.length()));
        if (!compile(List.of("-nowarn", "-d", place.toString(), file.toString()))) {
            return "does not compile";
        }
        File told = place.resolve("told").toFile();
        Process test = new ProcessBuilder("java", "-XX:TieredStopAtLevel=1", "-cp", place + File.pathSeparator + classes,
                testOf.get(breakage.sentence)).redirectErrorStream(true).redirectOutput(told).start();
        if (!test.waitFor(120, TimeUnit.SECONDS)) {
            test.destroyForcibly();
            return "does not end";
        }
        return Files.readString(told.toPath()).contains(" [" + breakage.sentence + "]: ") ? "" : "not found by its test";
    }
}
