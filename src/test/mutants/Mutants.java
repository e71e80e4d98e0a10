import java.io.ByteArrayOutputStream;
import java.io.File;
import java.nio.file.Files;
import java.nio.file.Path;
import java.util.ArrayList;
import java.util.LinkedHashSet;
import java.util.List;
import java.util.Map;
import java.util.Set;
import java.util.TreeMap;
import java.util.concurrent.ExecutorService;
import java.util.concurrent.Executors;
import java.util.concurrent.Future;
import java.util.concurrent.TimeUnit;
import java.util.regex.Matcher;
import java.util.regex.Pattern;
import java.util.stream.Stream;
import javax.tools.JavaCompiler;
import javax.tools.ToolProvider;

/**
 * Breaks the class in one place at a time and runs a test on it (BoundsTest, or the one that is named): prints each break that
 * the test does not see. Not a part of .ci/run, since it takes minutes; run it from the project's root:
 * java src/test/mutants/Mutants.java
 */
public final class Mutants {
    private static final Path MAIN = Path.of("src/main/java/SungSteps.java");
    private static final int SECONDS = 40;
    private static final String[][] SWAPS = {{"<=", "<"}, {">=", ">"}, {"==", "!="}, {"!=", "=="}, {"&&", "||"}, {"||", "&&"},
        {" < ", " <= "}, {" > ", " >= "}, {" + ", " - "}, {" - ", " + "}, {" * ", " / "}, {" / ", " * "}, {" % ", " / "},
        {"true", "false"}, {"false", "true"}, {"Math.max", "Math.min"}, {"Math.min", "Math.max"}, {"if (!", "if ("}, {"++", "--"},
        {" | ", " & "}, {" & ", " | "}, {"-=", "+="}, {"+=", "-="}, {"|=", "="}, {"NONE", "0"},
        {"return UNKNOWN", "return OUTSIDE"}, {"return UNKNOWN", "return NOT"}, {"return OUTSIDE", "return UNKNOWN"},
        {"return OUTSIDE", "return NOT"}, {"return NOT", "return OUTSIDE"}, {"return NOT", "return FULL"}, {"return FULL", "return OUTSIDE"}};
    private static final Pattern NUMBER = Pattern.compile("(?<![\\w.\"])(0x[0-9a-f]+|\\d+)(L?)(?![\\w\"])");
    private static final Pattern STATEMENT = Pattern.compile("[\\w.\\[\\]]+(\\(.*\\)|\\+\\+| [-+|*]?= .*);|if \\(.*\\) \\w.*;");

    private record Mutant(int line, String was, String now, String source) {
    }

    public static void main(String[] args) throws Exception {
        String test = args.length > 0 ? args[0] : "BoundsTest";
        Path root = Files.createTempDirectory("mutants");
        Path tests = compileTests(root.resolve("tests"));
        List<Mutant> all = mutants();
        ExecutorService pool = Executors.newFixedThreadPool(Runtime.getRuntime().availableProcessors());
        List<Future<String>> answers = new ArrayList<>();
        for (int k = 0; k < all.size(); k++) {
            Path place = root.resolve("m" + k);
            Mutant mutant = all.get(k);
            answers.add(pool.submit(() -> tried(mutant, place, tests, test)));
        }
        Map<String, Integer> counts = new TreeMap<>();
        for (int k = 0; k < all.size(); k++) {
            String answer = answers.get(k).get();
            counts.merge(answer, 1, Integer::sum);
            Mutant mutant = all.get(k);
            if (answer.equals("not seen")) System.out.println(mutant.line + ": " + mutant.was + "   ==>   " + mutant.now);
        }
        pool.shutdown();
        remove(root);
        System.out.println(counts);
    }

    private static Path compileTests(Path place) throws Exception {
        List<String> words = new ArrayList<>(List.of("--release", "17", "-encoding", "UTF-8", "-d", place.toString(), MAIN.toString()));
        try (Stream<Path> files = Files.list(Path.of("src/test/java"))) {
            files.forEach(file -> words.add(file.toString()));
        }
        if (ToolProvider.getSystemJavaCompiler().run(null, null, null, words.toArray(new String[0])) != 0) System.exit(1);
        return place;
    }

    private static List<Mutant> mutants() throws Exception {
        List<String> lines = Files.readAllLines(MAIN);
        List<Mutant> all = new ArrayList<>();
        boolean comment = false;
        for (int k = 0; k < lines.size(); k++) {
            String line = lines.get(k), words = line.trim();
            comment |= words.startsWith("/*");
            boolean skipped = comment || words.startsWith("//") || words.startsWith("import") || words.isEmpty();
            comment &= !words.endsWith("*/");
            if (skipped) continue;
            for (String now : broken(line)) {
                List<String> copy = new ArrayList<>(lines);
                copy.set(k, now);
                all.add(new Mutant(k + 1, words, now.trim(), String.join("\n", copy)));
            }
        }
        return all;
    }

    private static Set<String> broken(String line) {
        Set<String> rows = new LinkedHashSet<>();
        for (String[] swap : SWAPS) {
            for (int at = line.indexOf(swap[0]); at >= 0; at = line.indexOf(swap[0], at + 1)) {
                rows.add(line.substring(0, at) + swap[1] + line.substring(at + swap[0].length()));
            }
        }
        Matcher number = NUMBER.matcher(line);
        while (number.find()) {
            long value = Long.decode(number.group(1));
            for (long other = value - 1; other <= value + 1; other += 2) {
                rows.add(line.substring(0, number.start(1)) + other + line.substring(number.end(1)));
            }
        }
        if (STATEMENT.matcher(line.trim()).matches()) rows.add("");
        rows.remove(line);
        return rows;
    }

    private static String tried(Mutant mutant, Path place, Path tests, String test) throws Exception {
        Files.createDirectories(place);
        Path file = Files.writeString(place.resolve("SungSteps.java"), mutant.source);
        JavaCompiler compiler = ToolProvider.getSystemJavaCompiler();
        ByteArrayOutputStream unread = new ByteArrayOutputStream();
        if (compiler.run(null, unread, unread, "--release", "17", "-d", place.toString(), file.toString()) != 0) return "does not compile";
        Process run = new ProcessBuilder("java", "-XX:TieredStopAtLevel=1", "-XX:+UseSerialGC", "-cp", place + File.pathSeparator + tests, test)
            .redirectErrorStream(true).redirectOutput(place.resolve("said").toFile()).start();
        boolean ended = run.waitFor(SECONDS, TimeUnit.SECONDS);
        if (!ended) run.destroyForcibly().waitFor();
        String answer = !ended ? "does not end" : run.exitValue() != 0 ? "seen" : "not seen";
        remove(place);
        return answer;
    }

    private static void remove(Path place) throws Exception {
        try (Stream<Path> files = Files.walk(place)) {
            files.sorted((a, b) -> b.compareTo(a)).forEach(file -> file.toFile().delete());
        }
    }
}
