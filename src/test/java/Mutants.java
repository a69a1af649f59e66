import java.io.IOException;
import java.nio.file.Files;
import java.nio.file.Path;
import java.util.ArrayList;
import java.util.List;
import java.util.concurrent.ExecutorService;
import java.util.concurrent.Executors;
import java.util.concurrent.Future;
import java.util.concurrent.TimeUnit;

/**
 * Breaks sentences of the document in copies of the class, as src/test/mutants.txt tells, and looks
 * whether BoundsTest tells each as broken. Not run by .ci/run: see README.md.
 */
final class Mutants {
    private static final Path SOURCE = Path.of("src/main/java/CombTable.java");

    private final String sentence;
    private final List<String> from = new ArrayList<>();
    private final List<String> to = new ArrayList<>();

    private Mutants(String sentence) {
        this.sentence = sentence;
    }

    private static List<Mutants> told() throws IOException {
        List<Mutants> all = new ArrayList<>();
        for (String line : Files.readAllLines(Path.of("src/test/mutants.txt"))) {
            String text = line.length() > 2 ? line.substring(2).replace("\\n", "\n") : "";
            if (line.startsWith("> ")) {
                all.add(new Mutants(text));
            } else if (!all.isEmpty() && line.startsWith("- ")) {
                all.get(all.size() - 1).from.add(text);
            } else if (!all.isEmpty() && line.startsWith("+ ")) {
                all.get(all.size() - 1).to.add(text);
            }
        }
        return all;
    }

    private String changed(String source) {
        String text = source;
        for (int i = 0; i < from.size(); i++) {
            String one = from.get(i);
            if (text.indexOf(one) < 0 || text.indexOf(one) != text.lastIndexOf(one) || i >= to.size()) {
                return "";
            }
            text = text.replace(one, to.get(i));
        }
        return text;
    }

    private static List<String> output(List<String> command, Path out) throws IOException, InterruptedException {
        Process process = new ProcessBuilder(command).redirectErrorStream(true).redirectOutput(out.toFile()).start();
        if (!process.waitFor(120, TimeUnit.SECONDS)) {
            process.destroyForcibly();
            return List.of("it does not end");
        }
        return Files.readAllLines(out);
    }

    /** What is not as it should be; nothing, if the test tells the sentence as broken. */
    private String verdict(String source, String tests, Path place) throws IOException, InterruptedException {
        String text = changed(source);
        if (text.isEmpty()) {
            return "its lines do not stand in the class just once";
        }
        Files.createDirectories(place);
        Path file = Files.writeString(place.resolve("CombTable.java"), text);
        List<String> errors = output(List.of("javac", "-d", place.toString(), file.toString()), place.resolve("c"));
        if (!errors.isEmpty()) {
            return "it does not compile: " + errors;
        }
        String path = place + java.io.File.pathSeparator + tests;
        List<String> lines = output(List.of("java", "-cp", path, "BoundsTest"), place.resolve("t"));
        for (String line : lines) {
            if (line.startsWith("broken: " + sentence)) {
                return "";
            }
        }
        return "BoundsTest does not tell it: " + lines;
    }

    public static void main(String[] args) throws Exception {
        String source = Files.readString(SOURCE);
        Path work = Files.createTempDirectory("mutants");
        List<Mutants> all = told();
        ExecutorService pool = Executors.newFixedThreadPool(Runtime.getRuntime().availableProcessors());
        List<Future<String>> verdicts = new ArrayList<>();
        for (Mutants one : all) {
            Path place = work.resolve("m" + verdicts.size());
            verdicts.add(pool.submit(() -> one.verdict(source, args[0], place)));
        }
        int bad = 0;
        for (int i = 0; i < all.size(); i++) {
            String verdict = verdicts.get(i).get();
            if (!verdict.isEmpty()) {
                bad++;
                System.out.println(all.get(i).sentence + "\n  " + all.get(i).from + "\n  " + verdict);
            }
        }
        pool.shutdown();
        bad += untold(all, output(List.of("java", "-cp", args[0], "BoundsTest", "all"), work.resolve("all")));
        System.out.println(all.size() + " mutants, " + bad + " not as due");
        System.exit(bad > 0 ? 1 : 0);
    }

    private static int untold(List<Mutants> all, List<String> lines) {
        int bad = 0;
        for (String line : lines) {
            boolean told = !line.startsWith("sentence: ");
            for (Mutants one : all) {
                told = told || line.startsWith("sentence: " + one.sentence);
            }
            if (!told) {
                bad++;
                System.out.println("no mutant: " + line);
            }
        }
        return bad;
    }
}
