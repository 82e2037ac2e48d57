import java.io.PrintWriter;
import java.io.StringWriter;
import java.util.ArrayList;
import java.util.HashMap;
import java.util.List;
import java.util.Map;
import java.util.Optional;
import java.util.Set;
import java.util.TreeSet;
import java.util.regex.Matcher;
import java.util.regex.Pattern;
import java.util.spi.ToolProvider;

/** The rules of ../shared/LANGUAGE.md as far as the compiled code shows them. */
public final class LanguageCodeTest {
    private static final Set<String> LIBRARY = Set.of("java/lang/Object.\"<init>\"", "java/lang/Integer.bitCount",
        "java/lang/Math.abs", "java/lang/Math.max", "java/lang/Math.min", "java/lang/Math.floorDiv",
        "java/lang/Math.floorMod", "java/lang/System.arraycopy", "java/util/Arrays.fill");
    private static final Set<String> NEVER = Set.of("athrow", "invokedynamic", "invokeinterface", "checkcast",
        "instanceof", "monitorenter", "putstatic");
    private static final Set<String> MAKES = Set.of("new", "newarray", "anewarray", "multianewarray");
    private static final Pattern METHOD = Pattern.compile("  (?!.* class ).*?([\\w.$]+)\\((.*)\\);");
    private static final Pattern CODE = Pattern.compile(" +\\d+: (\\w+)\\b.*");
    private static final Pattern CALLED = Pattern.compile(".*// (?:Interface)?Method ([^:]+):.*");

    /** By method: the methods of the class that it calls. */
    private final Map<String, TreeSet<String>> calls = new HashMap<>();
    private String inside;
    private String method;

    public static void main(String[] args) {
        Optional<ToolProvider> javap = ToolProvider.findFirst("javap");
        Check.due("the code can be read", javap.isPresent() ? 1 : 0, 1);
        if (javap.isPresent()) {
            List<String> names = new ArrayList<>(List.of("NearNothing"));
            for (Class<?> one : NearNothing.class.getDeclaredClasses()) {
                names.add(one.getName());
            }
            LanguageCodeTest test = new LanguageCodeTest();
            for (String name : names) {
                test.read(name, code(javap.get(), name));
            }
            test.depths();
        }
        Check.end();
    }

    private static String code(ToolProvider javap, String name) {
        StringWriter said = new StringWriter();
        PrintWriter to = new PrintWriter(said);
        int bad = javap.run(to, to, "-p", "-c", "-cp", System.getProperty("java.class.path"), name);
        Check.due("the code of " + name, bad, 0);
        return said.toString();
    }

    private void read(String name, String code) {
        inside = name;
        method = name;
        for (String line : code.split("\n")) {
            Matcher head = METHOD.matcher(line);
            Matcher step = CODE.matcher(line);
            if (head.matches()) {
                boolean made = head.group(1).equals(name);
                method = name + "." + (made ? "\"<init>\"" : head.group(1));
                calls.put(method, new TreeSet<>());
                int parameters = head.group(2).isEmpty() ? 0 : head.group(2).split(",").length;
                Check.due(method + " has so many parameters", parameters <= 7 ? 1 : 0, 1);
            } else if (step.matches()) {
                step(line, step.group(1));
            } else {
                Check.due(method + " catches nothing", line.contains("Exception table") ? 1 : 0, 0);
                Check.due(method + " is no static block", line.contains("static {}") ? 1 : 0, 0);
            }
        }
    }

    private void step(String line, String step) {
        boolean decimal = step.matches("[fd](add|sub|mul|div|rem|neg|load|store|const|return|cmp).*");
        Check.due(method + " has " + step, NEVER.contains(step) || decimal ? 1 : 0, 0);
        boolean makes = MAKES.contains(step) && !method.endsWith(".\"<init>\"");
        Check.due(method + " makes nothing", makes ? 1 : 0, 0);
        Matcher called = CALLED.matcher(line);
        if (called.matches()) {
            String name = called.group(1);
            if (name.startsWith("java/")) {
                Check.due(method + " calls " + name, LIBRARY.contains(name) ? 1 : 0, 1);
            } else {
                TreeSet<String> of = calls.get(method);
                Check.due("a method calls " + name, of != null ? 1 : 0, 1);
                if (of != null) {
                    of.add(name.contains(".") ? name : inside + "." + name);
                }
            }
        }
    }

    /** "calls that are no recursion go at most eight deep". */
    private void depths() {
        Check.due("methods are found", calls.size() > 42 ? 1 : 0, 1);
        for (String name : calls.keySet()) {
            for (String called : calls.get(name)) {
                Check.due(name + " calls what is there: " + called, calls.containsKey(called) ? 1 : 0, 1);
            }
            Check.due(name + " goes at most eight deep", depth(name, new TreeSet<>()) <= 8 ? 1 : 0, 1);
        }
    }

    private int depth(String name, TreeSet<String> open) {
        if (!calls.containsKey(name) || !open.add(name)) {
            return 0;
        }
        int most = 0;
        for (String called : calls.get(name)) {
            most = Math.max(most, depth(called, open));
        }
        open.remove(name);
        return most + 1;
    }
}
