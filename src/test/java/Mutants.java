import java.io.IOException;
import java.nio.charset.StandardCharsets;
import java.nio.file.Files;
import java.nio.file.Path;
import java.util.ArrayList;
import java.util.List;
import java.util.concurrent.ExecutorService;
import java.util.concurrent.Executors;
import java.util.concurrent.TimeUnit;
import java.util.concurrent.atomic.AtomicInteger;
import java.util.regex.Matcher;
import java.util.regex.Pattern;
import javax.tools.JavaCompiler;
import javax.tools.ToolProvider;

/**
 * Breaks the class in one place at a time (a number by 1, a comparison, a sign, a statement left out) and tells the
 * breaks that SentenceTest does not see, and who does. No test of .ci/run (it takes minutes): see README.md.
 */
public final class Mutants {
    private static final Path SOURCE = Path.of("src/main/java/WakeHouse.java");
    private static final String[][] CHANGES = {
        {" < ", " <= "}, {" <= ", " < "}, {" > ", " >= "}, {" >= ", " > "}, {" == ", " != "}, {" != ", " == "},
        {" && ", " || "}, {" || ", " && "}, {" + ", " - "}, {" - ", " + "}, {" * ", " + "}, {" / ", " * "}, {" % ", " / "},
        {"++;", "--;"}, {"--;", "++;"}, {" += ", " -= "}, {" -= ", " += "}, {" |= ", " = "}, {" &= ", " = "}, {" ^ ", " | "},
        {" >>> ", " >> "}, {"true", "false"}, {"false", "true"}, {"Math.min(", "Math.max("}, {"Math.max(", "Math.min("},
        {"Math.abs(", "("}, {"NONE", "(-2)"}, {"NOBODY", "(-1)"}, {"NEVER", "(-1)"}, {"!", ""}};

    private static final String[] TESTS = {"SentenceTest", "PromiseTest", "ModelTest"};

    private final Path work;
    private final List<String> lines;
    private final JavaCompiler compiler = ToolProvider.getSystemJavaCompiler();
    private final AtomicInteger tried = new AtomicInteger();
    private final AtomicInteger made = new AtomicInteger();
    private final AtomicInteger unseen = new AtomicInteger();

    private Mutants(Path work) throws IOException {
        this.work = work;
        lines = Files.readAllLines(SOURCE, StandardCharsets.UTF_8);
    }

    public static void main(String[] args) throws Exception {
        Mutants m = new Mutants(Files.createTempDirectory("mutants"));
        m.breakAll(args.length > 0 ? Integer.parseInt(args[0]) : 1, args.length > 1 ? Integer.parseInt(args[1]) : m.lines.size());
    }

    private void breakAll(int from, int to) throws Exception {
        ExecutorService pool = Executors.newFixedThreadPool(Runtime.getRuntime().availableProcessors());
        for (int i = from - 1; i < to; i++) {
            String line = lines.get(i);
            if (line.trim().startsWith("//") || line.trim().startsWith("/*") || line.startsWith("import")) continue;
            for (String broken : breaks(line)) {
                int at = i;
                pool.submit(() -> tryOne(at, broken));
            }
        }
        pool.shutdown();
        pool.awaitTermination(5, TimeUnit.HOURS);
        System.out.println(made + " breaks compiled, " + unseen + " not seen");
    }

    private static List<String> breaks(String line) {
        List<String> all = new ArrayList<>();
        for (String[] change : CHANGES) {
            for (int at = line.indexOf(change[0]); at >= 0; at = line.indexOf(change[0], at + 1)) {
                all.add(line.substring(0, at) + change[1] + line.substring(at + change[0].length()));
            }
        }
        Matcher m = Pattern.compile("(?<![\\w.])(\\d+)(L?)\\b").matcher(line);
        while (m.find()) {
            long n = Long.parseLong(m.group(1));
            for (long by = -1; by <= 1; by += 2) {
                all.add(line.substring(0, m.start()) + (n + by < 0 ? "(-1)" : Long.toString(n + by)) + m.group(2) + line.substring(m.end()));
            }
        }
        if (line.matches(" {8,}[^{}]*;") && !line.matches(" +(return|case|default|int|long|boolean|final|static|private|//).*")) all.add(";");
        if (line.matches(" +(static )?final int \\w+ = .*")) all.remove(";");
        return all;
    }

    private static boolean passes(String test, Path dir) throws IOException, InterruptedException {
        String classes = dir + java.io.File.pathSeparator + System.getProperty("java.class.path");
        Process p = new ProcessBuilder("java", "-XX:TieredStopAtLevel=1", "-XX:+UseSerialGC", "-cp", classes, test)
            .redirectErrorStream(true).redirectOutput(dir.resolve("log").toFile()).start();
        boolean ended = p.waitFor(60, TimeUnit.SECONDS);
        if (!ended) p.destroyForcibly();
        return ended && p.exitValue() == 0;
    }

    private void tryOne(int at, String broken) {
        try {
            Path dir = Files.createDirectories(work.resolve("m" + tried.incrementAndGet()));
            List<String> text = new ArrayList<>(lines);
            text.set(at, broken);
            Path file = dir.resolve("WakeHouse.java");
            Files.write(file, text, StandardCharsets.UTF_8);
            int bad = compiler.run(null, new java.io.ByteArrayOutputStream(), new java.io.ByteArrayOutputStream(), "-nowarn", "-d", dir.toString(), file.toString());
            if (bad != 0) return;
            made.incrementAndGet();
            String seen = "nothing";
            for (int i = 0; i < TESTS.length && seen.equals("nothing"); i++) {
                if (!passes(TESTS[i], dir)) seen = TESTS[i];
            }
            if (!seen.equals(TESTS[0])) {
                if (seen.equals("nothing")) unseen.incrementAndGet();
                System.out.println((at + 1) + ": " + lines.get(at).trim() + "\n      " + broken.trim() + "   (seen by " + seen + ")");
            }
            for (Path used : Files.list(dir).toList()) Files.delete(used);
        } catch (IOException | InterruptedException e) {
            System.out.println("line " + (at + 1) + ": " + e);
        }
    }
}
