import java.io.PrintWriter;
import java.io.StringWriter;
import java.lang.reflect.Constructor;
import java.lang.reflect.Field;
import java.lang.reflect.Method;
import java.lang.reflect.Modifier;
import java.nio.file.Files;
import java.nio.file.Path;
import java.util.ArrayList;
import java.util.List;
import java.util.Map;
import java.util.Set;
import java.util.TreeMap;
import java.util.TreeSet;
import java.util.regex.Matcher;
import java.util.regex.Pattern;
import java.util.spi.ToolProvider;

/** What of LANGUAGE.md can be seen from the source's words and the class's members. */
public final class RulesTest {
    private static final String FACE = "feed end bench fault throwsBack seen apart alike cost ask mixes match nearest best"
            + " pick trick parts betray weight lamp set drop days vat old oldOne look untell later agree agrees next seed"
            + " image back about";
    private static int wrong = 0;

    private static void refuseIf(boolean broken, int rule, String what) {
        if (broken) {
            wrong++;
            System.out.println("rule " + rule + ": " + what);
        }
    }

    private static void words(String code) {
        String[] forbidden = {"throw", "throws", "try", "catch", "finally", "synchronized", "assert", "volatile", "native",
            "yield", "var", "Object", "Thread", "Random", "Exception"};
        for (String word : forbidden) {
            refuseIf(Pattern.compile("\\b" + word + "\\b").matcher(code).find(), 6, "the word " + word);
        }
        refuseIf(code.contains("->") || code.contains("::"), 2, "a lambda or a method reference");
        refuseIf(code.contains("Exact("), 4, "an exact function");
        refuseIf(Pattern.compile("static\\s*\\{").matcher(code).find(), 5, "a static block");
        refuseIf(Pattern.compile("while \\(true\\)|for \\(;;\\)|for \\([^;]*;\\s*;").matcher(code).find(), 9, "a loop without an end");
        Matcher imports = Pattern.compile("import ([\\w.]+);").matcher(code);
        while (imports.find()) {
            refuseIf(!Set.of("java.util.Arrays", "java.util.ArrayList", "java.util.List").contains(imports.group(1)), 4, imports.group());
        }
        Matcher library = Pattern.compile("\\b(Arrays|System|Math|Integer|Long)\\.(\\w+)").matcher(code);
        Set<String> fine = Set.of("Arrays.fill", "Arrays.copyOf", "System.arraycopy", "Math.max", "Math.min", "Math.abs",
                "Integer.bitCount", "Long.MAX_VALUE");
        while (library.find()) {
            refuseIf(!fine.contains(library.group()), 4, library.group());
        }
    }

    /** Methods begin and end at one indentation, so their lengths can be told from the lines alone. */
    private static void lengths(List<String> lines) {
        int start = 0;
        String head = "";
        for (int i = 0; i < lines.size(); i++) {
            String line = lines.get(i);
            if (line.matches(" {4}( {4})?[\\w\\[\\]<> ]+\\(.*\\) \\{")) {
                start = i;
                head = line.trim();
            }
            if (line.matches(" {4}( {4})?\\}") && start > 0) {
                refuseIf(i - start + 1 > 60, 11, head + " has " + (i - start + 1) + " lines");
                start = 0;
            }
            refuseIf(line.length() > 130, 11, "line " + (i + 1) + " is long");
        }
    }

    private static void face(Set<String> names) {
        Set<String> open = new TreeSet<>();
        for (Method m : DyeLamps.class.getDeclaredMethods()) {
            if (!Modifier.isPrivate(m.getModifiers())) {
                open.add(m.getName());
                refuseIf(!Modifier.isPublic(m.getModifiers()), 1, m.getName() + " is not public");
            } else {
                refuseIf(names.contains(m.getName()), 1, m.getName() + " is private and public");
            }
        }
        refuseIf(!open.equals(names), 1, "the face is " + open);
        for (Field f : DyeLamps.class.getDeclaredFields()) {
            refuseIf(!Modifier.isPrivate(f.getModifiers()) && !f.getName().equals("NONE"), 1, "field " + f.getName());
        }
        refuseIf(!Modifier.isFinal(DyeLamps.class.getModifiers()), 1, "the class is not final");
    }

    private static void members(Class<?> c, Set<String> names) {
        int fields = 0;
        for (Field f : c.getDeclaredFields()) {
            boolean fixed = Modifier.isStatic(f.getModifiers());
            fields += fixed ? 0 : 1;
            refuseIf(fixed && !Modifier.isFinal(f.getModifiers()), 5, c.getName() + "." + f.getName());
        }
        refuseIf(fields > 20, 11, c.getName() + " has " + fields + " fields");
        for (Method m : c.getDeclaredMethods()) {
            refuseIf(m.getParameterCount() > 7, 11, c.getName() + "." + m.getName());
            refuseIf(c != DyeLamps.class && names.contains(m.getName()), 1, c.getName() + "." + m.getName() + " bears a public name");
            refuseIf(Set.of("equals", "hashCode", "toString").contains(m.getName()), 6, c.getName() + "." + m.getName());
        }
        for (Constructor<?> k : c.getDeclaredConstructors()) {
            refuseIf(k.getParameterCount() > 7, 11, c.getName());
        }
    }

    /** Who calls whom, by the class files' own words. */
    private static Map<String, Set<String>> calls(List<Class<?>> classes) {
        Map<String, Set<String>> calls = new TreeMap<>();
        String path = DyeLamps.class.getProtectionDomain().getCodeSource().getLocation().getPath();
        for (Class<?> c : classes) {
            StringWriter out = new StringWriter();
            PrintWriter to = new PrintWriter(out);
            ToolProvider.findFirst("javap").orElseThrow().run(to, to, "-c", "-p", "-cp", path, c.getName());
            String from = "";
            for (String line : out.toString().split("\n")) {
                Matcher head = Pattern.compile("^  .*?([\\w$]+)\\(.*\\).*;$").matcher(line);
                Matcher call = Pattern.compile("// (?:Interface)?Method (?:([\\w/$]+)\\.)?\"?([\\w<>]+)\"?:").matcher(line);
                if (head.find()) {
                    from = c.getName() + "." + (head.group(1).equals(c.getName()) ? "<init>" : head.group(1));
                    calls.put(from, new TreeSet<>());
                } else if (call.find()) {
                    String owner = call.group(1) == null ? c.getName() : call.group(1);
                    calls.get(from).add(owner + "." + call.group(2));
                }
            }
        }
        return calls;
    }

    private static int depth(String method, Map<String, Set<String>> calls, int open) {
        refuseIf(open > 30, 8, method + " calls itself");
        int deepest = 0;
        for (String called : open > 30 ? Set.<String>of() : calls.getOrDefault(method, Set.of())) {
            deepest = Math.max(deepest, depth(called, calls, open + 1));
        }
        return deepest + 1;
    }

    private static void depths(List<Class<?>> classes) {
        Map<String, Set<String>> calls = calls(classes);
        int deepest = 0;
        for (String method : calls.keySet()) {
            int depth = depth(method, calls, 0);
            deepest = Math.max(deepest, depth);
            refuseIf(depth > 8, 11, method + " goes " + depth + " deep");
        }
        System.out.println(calls.size() + " methods, calls go " + deepest + " deep");
        refuseIf(calls.size() < 100 || deepest < 5, 11, "the calls could not be read");
    }

    public static void main(String[] args) throws Exception {
        Path path = Path.of("src/main/java/DyeLamps.java");
        String source = Files.readString(path);
        String code = source.replaceAll("(?s)/\\*.*?\\*/", "").replaceAll("//[^\n]*", "").replaceAll("\"[^\"\n]*\"", "\"\"");
        Set<String> names = new TreeSet<>(List.of(FACE.split(" ")));
        List<Class<?>> classes = new ArrayList<>(List.of(DyeLamps.class.getDeclaredClasses()));
        words(code);
        lengths(Files.readAllLines(path));
        face(names);
        for (Class<?> c : classes) {
            refuseIf(!Modifier.isStatic(c.getModifiers()), 2, c.getName() + " is not static");
        }
        classes.add(DyeLamps.class);
        refuseIf(classes.size() > 12, 11, classes.size() + " classes");
        for (Class<?> c : classes) {
            members(c, names);
        }
        depths(classes);
        System.out.println(classes.size() + " classes, " + wrong + " rules broken");
        if (wrong != 0) {
            System.exit(1);
        }
    }
}
