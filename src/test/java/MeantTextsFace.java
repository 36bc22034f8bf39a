import java.lang.reflect.Constructor;
import java.lang.reflect.Field;
import java.lang.reflect.Method;
import java.lang.reflect.Modifier;
import java.nio.file.Files;
import java.nio.file.Path;
import java.util.Arrays;
import java.util.Set;
import java.util.TreeSet;

/** The class has the document's face and no other, and its text keeps to what LANGUAGE.md leaves. */
public final class MeantTextsFace {
    private static final String[] METHODS = {
        "put 1", "set 2", "clear 0", "token 1", "kind 2", "fault 0", "fits 0", "value 4", "test 5", "drop 1",
        "keeps 0", "mend 2", "changes 0", "mending 2", "rank 1", "apart 2", "take 1", "habit 2", "forget 0",
        "count 1", "status 0",
    };
    private static final String[] BARRED = {
        "throw", "throws", "try", "catch", "synchronized", "assert", "import", "package", "System", "protected", "native",
    };
    private static int wrong = 0;

    private static void hold(boolean holds, String what) {
        if (!holds) {
            wrong++;
            System.out.println("not so: " + what);
        }
    }

    private static boolean isAllInts(Class<?>[] types) {
        return Arrays.stream(types).allMatch(t -> t == int.class);
    }

    private static void methods() {
        Set<String> seen = new TreeSet<>();
        Set<String> names = new TreeSet<>();
        for (Method m : MeantTexts.class.getDeclaredMethods()) {
            if (!Modifier.isPrivate(m.getModifiers())) {
                hold(Modifier.isPublic(m.getModifiers()), m.getName() + " is public");
                hold(!Modifier.isStatic(m.getModifiers()), m.getName() + " isn't static");
                hold(m.getReturnType() == int.class && isAllInts(m.getParameterTypes()), m.getName() + " has ints alone");
                seen.add(m.getName() + " " + m.getParameterCount());
                names.add(m.getName());
            }
        }
        hold(seen.equals(new TreeSet<>(Arrays.asList(METHODS))), "the methods are the document's: " + seen);
        for (Method m : MeantTexts.class.getDeclaredMethods()) {
            hold(!Modifier.isPrivate(m.getModifiers()) || !names.contains(m.getName()), m.getName() + " is named once");
        }
    }

    private static void fields() throws IllegalAccessException {
        for (Field f : MeantTexts.class.getDeclaredFields()) {
            boolean isNone = f.getName().equals("NONE");
            hold(isNone || Modifier.isPrivate(f.getModifiers()), f.getName() + " is private");
            hold(!Modifier.isStatic(f.getModifiers()) || Modifier.isFinal(f.getModifiers()), f.getName() + " is final");
            if (isNone) {
                hold(Modifier.isPublic(f.getModifiers()) && f.getInt(null) == -1, "NONE is public, and -1");
            }
        }
    }

    private static void classes() {
        hold(Modifier.isPublic(MeantTexts.class.getModifiers()), "the class is public");
        hold(Modifier.isFinal(MeantTexts.class.getModifiers()), "the class is final");
        Constructor<?>[] constructors = MeantTexts.class.getDeclaredConstructors();
        hold(constructors.length == 1 && constructors[0].getParameterCount() == 0
            && Modifier.isPublic(constructors[0].getModifiers()), "one public constructor without parameters");
        Class<?>[] inside = MeantTexts.class.getDeclaredClasses();
        hold(inside.length <= 11, "twelve classes at most");
        for (Class<?> c : inside) {
            hold(Modifier.isStatic(c.getModifiers()), c + " is static");
            hold(!Modifier.isPublic(c.getModifiers()), c + " isn't public");
            hold(c.getDeclaredFields().length <= 32, c + " has few fields");
            for (Method m : c.getDeclaredMethods()) {
                hold(m.getParameterCount() <= 7, m + " has seven parameters at most");
            }
        }
    }

    private static void text() throws java.io.IOException {
        String source = Files.readString(Path.of("src/main/java/MeantTexts.java"));
        String code = source.replaceAll("(?s)/\\*.*?\\*/", " ").replaceAll("//[^\n]*", " ");
        Set<String> words = new TreeSet<>(Arrays.asList(code.split("[^A-Za-z_]+")));
        for (String word : BARRED) {
            hold(!words.contains(word), "the word " + word + " isn't in the program");
        }
        hold(!code.contains("->") && !code.contains("::"), "no lambda, no method reference");
        hold(source.chars().allMatch(c -> c < 128), "plain characters alone");
    }

    public static void main(String[] args) throws Exception {
        classes();
        methods();
        fields();
        text();
        System.out.println(wrong == 0 ? "the face is the document's" : wrong + " things are not so");
        if (wrong != 0) {
            System.exit(1);
        }
    }
}
