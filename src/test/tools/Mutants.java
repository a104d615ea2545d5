import java.io.IOException;
import java.nio.file.Files;
import java.nio.file.Path;
import java.util.ArrayList;
import java.util.Comparator;
import java.util.List;
import java.util.concurrent.ExecutorService;
import java.util.concurrent.Executors;
import java.util.concurrent.Future;
import java.util.concurrent.TimeUnit;
import java.util.regex.Matcher;
import java.util.regex.Pattern;
import java.util.stream.Stream;

/**
 * Breaks the class at one place at a time and runs the boundary tests: a change that none of them tells is printed.
 * Not part of .ci/run (some minutes): java src/test/tools/Mutants.java [first line] [last line]
 */
public final class Mutants {
    private static final Path SOURCE = Path.of("src/main/java/DyeLamps.java");
    private static final String[] TESTS = {"TapeEdgeTest", "TextEdgeTest", "LightEdgeTest", "BetrayEdgeTest", "VatEdgeTest", "OldEdgeTest",
        "SearchEdgeTest"};
    private static final int SECONDS = 60;

    record Mutant(int line, String before, String after) { }

    private static void add(List<Mutant> all, int line, String code, Matcher at, String... instead) {
        for (String other : instead) {
            all.add(new Mutant(line, code, code.substring(0, at.start()) + other + code.substring(at.end())));
        }
    }

    private static void compare(List<Mutant> all, int line, String code) {
        Matcher m = Pattern.compile("(?<= )(<=|>=|==|!=|<|>|&&|\\|\\|)(?= )").matcher(code);
        while (m.find()) {
            switch (m.group()) {
                case "<" -> add(all, line, code, m, "<=", ">=");
                case "<=" -> add(all, line, code, m, "<", ">");
                case ">" -> add(all, line, code, m, ">=", "<=");
                case ">=" -> add(all, line, code, m, ">", "<");
                case "==" -> add(all, line, code, m, "!=");
                case "!=" -> add(all, line, code, m, "==");
                case "&&" -> add(all, line, code, m, "||");
                default -> add(all, line, code, m, "&&");
            }
        }
    }

    private static void reckon(List<Mutant> all, int line, String code) {
        Matcher sign = Pattern.compile("(?<= )[-+*/%](?= )").matcher(code);
        while (sign.find()) {
            add(all, line, code, sign, sign.group().equals("+") ? "-" : "+");
        }
        Matcher number = Pattern.compile("(?<![\\w.])\\d+(?![\\w.])").matcher(code);
        while (number.find()) {
            long n = Long.parseLong(number.group());
            add(all, line, code, number, Long.toString(n + 1));
            if (n > 0) {
                add(all, line, code, number, Long.toString(n - 1));
            }
        }
        Matcher truth = Pattern.compile("\\b(true|false)\\b").matcher(code);
        while (truth.find()) {
            add(all, line, code, truth, truth.group().equals("true") ? "false" : "true");
        }
    }

    private static void leaveOut(List<Mutant> all, int line, String code) {
        Matcher not = Pattern.compile("!(?=[\\w(])").matcher(code);
        while (not.find()) {
            add(all, line, code, not, "");
        }
        Matcher condition = Pattern.compile("(?<=if \\().*(?=\\) \\{$)").matcher(code);
        if (condition.find()) {
            add(all, line, code, condition, "false && (" + condition.group() + ")", "true || (" + condition.group() + ")");
        }
        Matcher deed = Pattern.compile("(?<=^ {8,40})(?!return|final|int |long |boolean )[\\w.\\[\\]]+(\\(.*\\)|\\+\\+|--| [-+|*]?= .*);$").matcher(code);
        if (deed.find()) {
            add(all, line, code, deed, ";");
        }
    }

    private static List<Mutant> mutants(List<String> lines, int first, int last) {
        List<Mutant> all = new ArrayList<>();
        for (int i = Math.max(0, first - 1); i < Math.min(lines.size(), last); i++) {
            String code = lines.get(i);
            if (!code.strip().matches("(//|/\\*|\\*|import).*")) {
                compare(all, i, code);
                reckon(all, i, code);
                leaveOut(all, i, code);
            }
        }
        return all;
    }

    private static boolean runs(String... command) throws IOException, InterruptedException {
        Process p = new ProcessBuilder(command).redirectErrorStream(true).redirectOutput(ProcessBuilder.Redirect.DISCARD).start();
        boolean ended = p.waitFor(SECONDS, TimeUnit.SECONDS);
        p.destroyForcibly();
        return ended && p.exitValue() == 0;
    }

    /** Whether the class can be compiled with this change and all tests pass with it. */
    private static boolean survives(Mutant m, List<String> lines, Path tests, Path room) throws IOException, InterruptedException {
        Files.createDirectories(room);
        List<String> changed = new ArrayList<>(lines);
        changed.set(m.line, m.after);
        Path file = room.resolve("DyeLamps.java");
        Files.write(file, changed);
        if (!runs("javac", "-nowarn", "-d", room.toString(), file.toString())) {
            return false;
        }
        for (String test : TESTS) {
            if (!runs("java", "-XX:TieredStopAtLevel=1", "-cp", room + ":" + tests, test)) {
                return false;
            }
        }
        return true;
    }

    public static void main(String[] args) throws Exception {
        List<String> lines = Files.readAllLines(SOURCE);
        int first = args.length > 0 ? Integer.parseInt(args[0]) : 1;
        int last = args.length > 1 ? Integer.parseInt(args[1]) : lines.size();
        List<Mutant> all = mutants(lines, first, last);
        Path room = Files.createTempDirectory("mutants");
        Path tests = room.resolve("tests");
        List<String> compile = new ArrayList<>(List.of("javac", "-encoding", "UTF-8", "-nowarn", "-sourcepath", "src/test/java:src/main/java",
                "-d", tests.toString()));
        for (String test : TESTS) {
            compile.add("src/test/java/" + test + ".java");
        }
        if (!runs(compile.toArray(new String[0]))) {
            System.out.println("the tests can't be compiled");
            System.exit(1);
        }
        ExecutorService hands = Executors.newFixedThreadPool(Runtime.getRuntime().availableProcessors());
        List<Future<Boolean>> answers = new ArrayList<>();
        for (int i = 0; i < all.size(); i++) {
            Mutant m = all.get(i);
            Path own = room.resolve("m" + i);
            answers.add(hands.submit(() -> survives(m, lines, tests, own)));
        }
        int left = 0;
        for (int i = 0; i < all.size(); i++) {
            if (answers.get(i).get()) {
                left++;
                Mutant m = all.get(i);
                System.out.println("line " + (m.line + 1) + "\n  - " + m.before.strip() + "\n  + " + m.after.strip());
            }
        }
        hands.shutdown();
        try (Stream<Path> files = Files.walk(room)) {
            files.sorted(Comparator.reverseOrder()).forEach(file -> file.toFile().delete());
        }
        System.out.println(all.size() + " changes, " + left + " that no test tells");
    }
}
