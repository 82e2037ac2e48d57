import java.io.IOException;
import java.lang.reflect.Method;
import java.lang.reflect.Modifier;
import java.net.URL;
import java.net.URLClassLoader;
import java.nio.file.FileVisitOption;
import java.nio.file.Files;
import java.nio.file.Path;
import java.util.ArrayList;
import java.util.List;
import java.util.TreeSet;
import java.util.regex.Matcher;
import java.util.regex.Pattern;
import java.util.stream.Stream;
import javax.tools.JavaCompiler;
import javax.tools.ToolProvider;

/** README.md as it stands: its calls are compiled and asked, its commands are run. */
public final class ReadmeTest {
    private static final Pattern CALL = Pattern.compile("(x\\.(\\w+)\\(.*\\)); +// (-?\\d+): .+");
    private static final String FIRST = "NearNothing x = new NearNothing();";
    private static final String ALL_TESTS = ".ci/run";

    public static void main(String[] args) throws Exception {
        List<String> lines = Files.readAllLines(Path.of("README.md"));
        Path room = Files.createTempDirectory("readme");
        try {
            calls(blocks(lines, "java"), room);
            commands(blocks(lines, "sh"), room);
        } finally {
            remove(room);
        }
        testsNamed(lines);
        Check.end();
    }

    private static List<String> blocks(List<String> lines, String kind) {
        List<String> found = new ArrayList<>();
        boolean inside = false;
        for (String line : lines) {
            if (line.startsWith("```")) {
                inside = line.equals("```" + kind);
            } else if (inside) {
                found.add(line);
            }
        }
        return found;
    }

    private static void calls(List<String> lines, Path room) throws Exception {
        TreeSet<String> names = new TreeSet<>();
        List<String> calls = new ArrayList<>();
        List<Long> due = new ArrayList<>();
        Check.due("README: first an object is made", lines.get(0).equals(FIRST) ? 1 : 0, 1);
        for (String line : lines.subList(1, lines.size())) {
            Matcher matcher = CALL.matcher(line);
            boolean call = matcher.matches();
            Check.due("README: a call and its answer: " + line, call ? 1 : 0, 1);
            if (call) {
                calls.add(matcher.group(1));
                names.add(matcher.group(2));
                due.add(Long.parseLong(matcher.group(3)));
            }
        }
        long[] answers = answers(calls, room);
        Check.due("README: all its calls are asked", answers.length, calls.size());
        for (int k = 0; k < answers.length; k++) {
            Check.due("README: " + calls.get(k), answers[k], due.get(k));
        }
        Check.due("README: no more than 512 calls", calls.size() <= 512 ? 1 : 0, 1);
        Check.due("README: every call of the face: " + names, names.equals(face()) ? 1 : 0, 1);
    }

    private static TreeSet<String> face() {
        TreeSet<String> names = new TreeSet<>();
        for (Method method : NearNothing.class.getDeclaredMethods()) {
            if (Modifier.isPublic(method.getModifiers())) {
                names.add(method.getName());
            }
        }
        return names;
    }

    private static long[] answers(List<String> calls, Path room) throws Exception {
        StringBuilder text = new StringBuilder("public final class Asked {\n");
        text.append("public static long[] answers() {\n").append(FIRST).append("\nreturn new long[] {\n");
        for (String call : calls) {
            text.append(call).append(",\n");
        }
        Path source = room.resolve("Asked.java");
        Files.writeString(source, text.append("};\n}\n}\n"));
        JavaCompiler compiler = ToolProvider.getSystemJavaCompiler();
        int bad = compiler == null ? 1 : compiler.run(null, null, null, "-cp",
                System.getProperty("java.class.path"), "-d", room.toString(), source.toString());
        Check.due("README: its calls compile", bad, 0);
        if (bad != 0) {
            return new long[0];
        }
        try (URLClassLoader loader = new URLClassLoader(new URL[] {room.toUri().toURL()})) {
            return (long[]) loader.loadClass("Asked").getMethod("answers").invoke(null);
        }
    }

    /** In a copy, so that nothing is left in the project; not .ci/run, which runs this test. */
    private static void commands(List<String> lines, Path room) throws Exception {
        Path project = room.resolve("main");
        copy(Path.of("src"), project.resolve("src"));
        copy(Path.of("../shared"), room.resolve("shared"));
        for (String line : lines) {
            if (line.equals(ALL_TESTS)) {
                Check.due("README: " + line, Files.isExecutable(Path.of(line)) ? 1 : 0, 1);
            } else {
                Process process = new ProcessBuilder("sh", "-c", line).directory(project.toFile())
                        .redirectErrorStream(true).redirectOutput(room.resolve("said").toFile()).start();
                Check.due("README: " + line, process.waitFor(), 0);
            }
        }
        Check.due("README: how to run all tests", lines.contains(ALL_TESTS) ? 1 : 0, 1);
    }

    private static void copy(Path from, Path to) throws IOException {
        try (Stream<Path> files = Files.walk(from, FileVisitOption.FOLLOW_LINKS)) {
            for (Path file : (Iterable<Path>) files::iterator) {
                Path copied = to.resolve(from.relativize(file).toString());
                if (Files.isDirectory(file)) {
                    Files.createDirectories(copied);
                } else {
                    Files.write(copied, Files.readAllBytes(file));
                }
            }
        }
    }

    private static void remove(Path room) throws IOException {
        List<Path> found;
        try (Stream<Path> files = Files.walk(room)) {
            found = new ArrayList<>(files.toList());
        }
        for (int k = found.size() - 1; k >= 0; k--) {
            Files.delete(found.get(k));
        }
    }

    private static void testsNamed(List<String> lines) throws IOException {
        String page = String.join("\n", lines);
        TreeSet<String> there = new TreeSet<>();
        try (Stream<Path> files = Files.list(Path.of("src/test/java"))) {
            files.map(file -> file.getFileName().toString()).filter(name -> name.endsWith("Test.java"))
                    .forEach(name -> there.add(name.replace(".java", "")));
        }
        for (String name : there) {
            Check.due("README: names " + name, page.contains("`" + name + "`") ? 1 : 0, 1);
        }
        Matcher named = Pattern.compile("`(\\w+Test)`").matcher(page);
        while (named.find()) {
            Check.due("README: there is a " + named.group(1), there.contains(named.group(1)) ? 1 : 0, 1);
        }
    }
}
