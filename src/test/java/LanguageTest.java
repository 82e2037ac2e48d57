import java.io.IOException;
import java.lang.reflect.Field;
import java.lang.reflect.Method;
import java.lang.reflect.Modifier;
import java.nio.file.Files;
import java.nio.file.Path;
import java.util.Arrays;
import java.util.List;
import java.util.TreeSet;
import java.util.regex.Matcher;
import java.util.regex.Pattern;

/** The rules of ../shared/LANGUAGE.md as far as the source and the compiled class show them. */
public final class LanguageTest {
    private static final String[] FACE = {"room(int,int)int", "warm(int,int)int",
        "gas(int,int,int,boolean)int", "gives(int,int,int)int", "pipe(int,int,int)int",
        "pump(int,int,int,int,int)int", "leak(int,int,int)int", "ticks(int)int", "in(int,int,int)int",
        "pumpOf(int,int)int", "all(int,int)int", "when(int,int,int)int", "feed(int,long)int", "rule()int",
        "unrule(int)int", "forbids(int,boolean)int", "valve(int,boolean)int", "start(int,boolean)int",
        "warmUp(int)int", "undo()int", "redo()int", "order(int,int)int", "rest(int,int,int)long",
        "square(int,int,boolean)int", "walks(int,int,int)int", "sees(int,int,int)int",
        "reads(int,int)int", "reading(int,int)int", "trueGas(int,int)int",
        "stage(int,int,int,int,int)int", "restCold(int)int", "load(int,int)int", "late(int,int)int",
        "spray(int,int)int", "seen(int,boolean)int", "anew()int", "hunt(int)int",
        "odds(int,int,int,int,int)long", "offer(int,int,int)int", "plan(int,int)int", "count(int)int"};
    private static final String[] NEVER = {"\\bthrow\\b", "\\bthrows\\b", "\\btry\\b", "\\bcatch\\b",
        "\\bsynchronized\\b", "\\bassert\\b", "->", "::", "\\bdouble\\b", "\\bfloat\\b", "Exact\\b",
        "\\bwhile\\b", "\"", "\\binterface\\b", "\\bprotected\\b", "\\bstatic \\{"};

    public static void main(String[] args) throws IOException {
        List<String> lines = Files.readAllLines(Path.of("src/main/java/NearNothing.java"));
        Check.due("public and final", NearNothing.class.getModifiers(), Modifier.PUBLIC | Modifier.FINAL);
        Check.due("one constructor", NearNothing.class.getDeclaredConstructors().length, 1);
        face();
        insideClasses();
        fields(NearNothing.class);
        never(lines);
        methodLengths(lines);
        noNewInCalls(lines);
        Check.end();
    }

    private static void face() {
        TreeSet<String> found = new TreeSet<>();
        TreeSet<String> names = new TreeSet<>();
        for (Method method : NearNothing.class.getDeclaredMethods()) {
            if (Modifier.isPublic(method.getModifiers())) {
                String types = Arrays.toString(method.getParameterTypes()).replaceAll("[\\[\\] ]", "");
                found.add(method.getName() + "(" + types + ")" + method.getReturnType());
                names.add(method.getName());
            }
        }
        Check.due("the face " + found, found.equals(new TreeSet<>(List.of(FACE))) ? 1 : 0, 1);
        hiddenMethods(NearNothing.class, names);
        for (Class<?> inside : NearNothing.class.getDeclaredClasses()) {
            hiddenMethods(inside, names);
        }
    }

    private static void hiddenMethods(Class<?> owner, TreeSet<String> names) {
        for (Method method : owner.getDeclaredMethods()) {
            boolean face = owner == NearNothing.class && Modifier.isPublic(method.getModifiers());
            boolean hidden = owner != NearNothing.class || Modifier.isPrivate(method.getModifiers());
            Check.due(method + " is of the face or hidden", face || hidden ? 1 : 0, 1);
            Check.due(method + " bears no public name", !face && names.contains(method.getName()) ? 1 : 0, 0);
            Check.due(method + " parameters", method.getParameterCount() > 7 ? 1 : 0, 0);
        }
    }

    private static void insideClasses() {
        Class<?>[] inside = NearNothing.class.getDeclaredClasses();
        Check.due("some twelve classes", inside.length < 13 ? 1 : 0, 1);
        for (Class<?> one : inside) {
            Check.due(one + " is static and private",
                    Modifier.isStatic(one.getModifiers()) && Modifier.isPrivate(one.getModifiers()) ? 1 : 0, 1);
            Check.due(one + " has none inside", one.getDeclaredClasses().length, 0);
            fields(one);
        }
    }

    private static void fields(Class<?> owner) {
        int own = 0;
        for (Field field : owner.getDeclaredFields()) {
            if (Modifier.isStatic(field.getModifiers())) {
                Check.due(field + " is final", Modifier.isFinal(field.getModifiers()) ? 1 : 0, 1);
            } else {
                own++;
            }
            boolean hidden = owner != NearNothing.class || Modifier.isPrivate(field.getModifiers());
            Check.due(field + " is hidden", hidden ? 1 : 0, 1);
        }
        Check.due("some twenty fields of " + owner, own <= 20 ? 1 : 0, 1);
    }

    private static void never(List<String> lines) {
        for (int k = 0; k < lines.size(); k++) {
            String line = lines.get(k).replaceAll("//.*|^\\s*/?\\*.*", "");
            for (String word : NEVER) {
                boolean has = Pattern.compile(word).matcher(line).find();
                Check.due("line " + (k + 1) + " has " + word, has ? 1 : 0, 0);
            }
            boolean other = line.startsWith("import") && !line.equals("import java.util.Arrays;");
            Check.due("line " + (k + 1) + " imports", other ? 1 : 0, 0);
            Check.due("line " + (k + 1) + " is long", line.length() > 100 ? 1 : 0, 0);
        }
    }

    private static void methodLengths(List<String> lines) {
        Pattern head = Pattern.compile("^( {4}| {8})(public|private|static|int|long|boolean|void)[^=;]*\\(.*");
        int from = -1;
        String indent = "";
        for (int k = 0; k < lines.size(); k++) {
            Matcher matcher = head.matcher(lines.get(k));
            if (from < 0 && matcher.matches()) {
                from = k;
                indent = matcher.group(1);
            } else if (from >= 0 && lines.get(k).equals(indent + "}")) {
                Check.due("the method from line " + (from + 1) + " is long", k - from > 60 ? 1 : 0, 0);
                from = -1;
            }
        }
    }

    /** All that is made is made with the object: only in fields and in its constructor. */
    private static void noNewInCalls(List<String> lines) {
        boolean constructor = false;
        for (int k = 0; k < lines.size(); k++) {
            String line = lines.get(k).replaceAll("//.*|^\\s*/?\\*.*", "");
            constructor |= line.equals("    public NearNothing() {");
            boolean field = line.matches(" {8}(private )?final [\\w\\[\\]]+ \\w+ = new .*;");
            if (line.contains(" new ")) {
                Check.due("line " + (k + 1) + " makes something in a call", constructor || field ? 0 : 1, 0);
            }
            constructor &= !line.equals("    }");
        }
    }
}
