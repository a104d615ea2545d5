import java.io.PrintStream;
import java.lang.reflect.InvocationTargetException;
import java.net.URL;
import java.net.URLClassLoader;
import java.nio.file.Files;
import java.nio.file.Path;
import java.util.ArrayList;
import java.util.List;
import java.util.Set;
import java.util.TreeSet;
import java.util.regex.Matcher;
import java.util.regex.Pattern;
import java.util.spi.ToolProvider;

/** README.md's lines of Java are compiled and run; each call with an answer behind it must give that answer. */
public final class ReadmeTest {
    private static final Pattern BLOCK = Pattern.compile("(?ms)^```java\n(.*?)^```$");
    private static final Pattern ANSWERED = Pattern.compile("^(x\\.\\w+\\(.*\\)); +// (-?\\d+|NONE|true|false)\\b.*$");
    private static final Pattern CALL = Pattern.compile("x\\.(\\w+)\\(");
    private static final int FEWEST_ANSWERS = 40;

    private static final List<String> wrong = new ArrayList<>();

    private ReadmeTest() { }

    /** Called by the lines of the page. */
    public static void due(String call, long got, long want) {
        if (got != want) {
            wrong.add(call + " answered " + got + ", the page says " + want);
        }
    }

    public static void due(String call, boolean got, boolean want) {
        due(call, got ? 1 : 0, want ? 1 : 0);
    }

    private static List<String> blocks(String page) {
        List<String> blocks = new ArrayList<>();
        Matcher block = BLOCK.matcher(page);
        while (block.find()) {
            blocks.add(block.group(1));
        }
        return blocks;
    }

    /** The first block is a method, those behind it are lines of calls. */
    private static String program(List<String> blocks) {
        StringBuilder s = new StringBuilder("public final class Page {\n").append(blocks.get(0));
        s.append("public static void main(String[] args) {\n");
        for (String block : blocks.subList(1, blocks.size())) {
            for (String line : block.split("\n")) {
                Matcher answered = ANSWERED.matcher(line);
                if (answered.find()) {
                    String answer = answered.group(2).replace("NONE", "DyeLamps.NONE");
                    s.append("ReadmeTest.due(\"").append(answered.group(1)).append("\", ").append(answered.group(1));
                    s.append(", ").append(answer).append(");\n");
                } else {
                    s.append(line).append('\n');
                }
            }
        }
        return s.append("}\n}\n").toString();
    }

    private static void run(String program) throws Exception {
        Path room = Files.createTempDirectory("page");
        Path file = Files.writeString(room.resolve("Page.java"), program);
        PrintStream out = System.out;
        int failed = ToolProvider.findFirst("javac").orElseThrow().run(out, out, "-nowarn",
                "-cp", System.getProperty("java.class.path"), "-d", room.toString(), file.toString());
        if (failed != 0) {
            wrong.add("the page's lines can't be compiled");
        } else {
            try (URLClassLoader loader = new URLClassLoader(new URL[] {room.toUri().toURL()})) {
                loader.loadClass("Page").getMethod("main", String[].class).invoke(null, (Object) new String[0]);
            } catch (InvocationTargetException e) {
                wrong.add("the page's lines ended with " + e.getCause());
            }
        }
        for (String name : new String[] {"Page.java", "Page.class"}) {
            Files.deleteIfExists(room.resolve(name));
        }
        Files.deleteIfExists(room);
    }

    /** How to use the class is told only if each call of its face is told. */
    private static void allCallsAreTold(String page) {
        Set<String> missing = new TreeSet<>();
        for (java.lang.reflect.Method m : DyeLamps.class.getDeclaredMethods()) {
            if (java.lang.reflect.Modifier.isPublic(m.getModifiers())) {
                missing.add(m.getName());
            }
        }
        Matcher call = CALL.matcher(page);
        while (call.find()) {
            missing.remove(call.group(1));
        }
        missing.removeIf(name -> page.contains("`" + name + "`"));
        if (!missing.isEmpty()) {
            wrong.add("the page does not tell of " + missing);
        }
    }

    public static void main(String[] args) throws Exception {
        String page = Files.readString(Path.of("README.md"));
        List<String> blocks = blocks(page);
        if (blocks.size() < 2) {
            wrong.add("the page has " + blocks.size() + " blocks of Java");
        } else {
            String program = program(blocks);
            int answers = program.split("ReadmeTest\\.due").length - 1;
            if (answers < FEWEST_ANSWERS) {
                wrong.add("only " + answers + " answers could be read");
            }
            run(program);
            System.out.println(answers + " answers of the page, " + wrong.size() + " went wrong");
        }
        allCallsAreTold(page);
        wrong.forEach(System.out::println);
        if (!wrong.isEmpty()) {
            System.exit(1);
        }
    }
}
