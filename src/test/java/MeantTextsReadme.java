import java.lang.reflect.Method;
import java.lang.reflect.Modifier;
import java.nio.file.Files;
import java.nio.file.Path;
import java.util.List;
import java.util.Set;
import java.util.TreeSet;
import java.util.regex.Matcher;
import java.util.regex.Pattern;

/** README.md tells each call of the class, and its examples answer what it says that they do. */
public final class MeantTextsReadme {
    private static final Pattern CALL = Pattern.compile("x\\.(\\w+)\\(([-\\d, ]*)\\);");
    private static final Pattern ANSWER = Pattern.compile("// (-?\\d+): ");
    private static final Pattern ROW = Pattern.compile("\\| `(\\w+)\\(([\\w, ]*)\\)` \\| .+ \\|");
    private static final int FEWEST_CALLS = 20;

    private static int wrong = 0;
    private static int calls = 0;
    private static MeantTexts x = null;

    private static void hold(boolean holds, String what) {
        if (!holds) {
            wrong++;
            System.out.println("README.md: not so: " + what);
        }
    }

    private static int countOf(String arguments) {
        return arguments.isBlank() ? 0 : arguments.split(",").length;
    }

    private static Method named(String name, int parameters) {
        for (Method m : MeantTexts.class.getDeclaredMethods()) {
            if (Modifier.isPublic(m.getModifiers()) && m.getName().equals(name) && m.getParameterCount() == parameters) {
                return m;
            }
        }
        return null;
    }

    private static int call(String name, String arguments) throws ReflectiveOperationException {
        Object[] given = new Object[countOf(arguments)];
        for (int i = 0; i < given.length; i++) {
            given[i] = Integer.valueOf(arguments.split(",")[i].trim());
        }
        Method method = named(name, given.length);
        hold(method != null, "there is a call " + name + " of " + given.length);
        calls++;
        return method == null ? 0 : (Integer) method.invoke(x, given);
    }

    /** Makes the calls of a line; what its comment begins with is due from the last of them. */
    private static void follow(String line) throws ReflectiveOperationException {
        if (line.equals("MeantTexts x = new MeantTexts();")) {
            x = new MeantTexts();
            return;
        }
        Matcher call = CALL.matcher(line);
        Matcher answer = ANSWER.matcher(line);
        if (x == null || !call.lookingAt() || !answer.find()) {
            hold(false, "a line of an example has calls and an answer: " + line);
            return;
        }
        int got = call(call.group(1), call.group(2));
        while (call.find()) {
            got = call(call.group(1), call.group(2));
        }
        hold(got == Integer.parseInt(answer.group(1)), line + " (it answered " + got + ")");
    }

    private static void examples(List<String> lines) throws ReflectiveOperationException {
        boolean inside = false;
        for (String line : lines) {
            if (line.startsWith("```")) {
                inside = line.equals("```java");
            } else if (inside) {
                follow(line);
            }
        }
        hold(calls >= FEWEST_CALLS, "its examples are followed: " + calls + " calls");
    }

    private static void table(List<String> lines) {
        Set<String> told = new TreeSet<>();
        for (String line : lines) {
            Matcher row = ROW.matcher(line);
            if (row.matches()) {
                told.add(row.group(1) + " " + countOf(row.group(2)));
            }
        }
        Set<String> there = new TreeSet<>();
        for (Method m : MeantTexts.class.getDeclaredMethods()) {
            if (Modifier.isPublic(m.getModifiers())) {
                there.add(m.getName() + " " + m.getParameterCount());
            }
        }
        hold(told.equals(there), "it tells each call: " + told);
    }

    private static void tests(String text) throws java.io.IOException {
        try (var files = Files.list(Path.of("src/test/java"))) {
            files.forEach(f -> hold(text.contains("`" + f.toString().replace('\\', '/') + "`"), "it names the test " + f));
        }
    }

    public static void main(String[] args) throws Exception {
        Path readme = Path.of("README.md");
        examples(Files.readAllLines(readme));
        table(Files.readAllLines(readme));
        tests(Files.readString(readme));
        System.out.println(wrong == 0 ? "README.md's " + calls + " calls answer as it says" : wrong + " things are not so");
        if (wrong != 0) {
            System.exit(1);
        }
    }
}
