import java.io.IOException;
import java.lang.reflect.Constructor;
import java.lang.reflect.Field;
import java.lang.reflect.Method;
import java.lang.reflect.Modifier;
import java.nio.file.Files;
import java.nio.file.Path;
import java.util.Set;
import java.util.TreeSet;
import java.util.regex.Matcher;
import java.util.regex.Pattern;

/** The public face, as the document has it, and what can be seen of LANGUAGE.md in the source's lines. */
public final class FaceTest {
    private static final String INDEX = " IndexOutOfBoundsException";
    private static final String ARGUMENT = " IllegalArgumentException";
    private static final String STATE = " IllegalStateException";

    private static final String[] FACE = {
        "int ferry 6" + INDEX + ARGUMENT + STATE, "int drop 1" + INDEX, "int kind 2" + INDEX + ARGUMENT,
        "int clock 2" + INDEX + ARGUMENT, "int set 2" + INDEX + ARGUMENT, "int place 4" + INDEX + ARGUMENT,
        "int rest 2" + INDEX + ARGUMENT + STATE, "int take 2" + INDEX + STATE, "int append 1" + ARGUMENT + STATE,
        "int clearBuffer 0", "int firstError 0", "int ferries 0" + ARGUMENT + STATE, "int undo 0" + STATE,
        "int ferryOf 2" + INDEX + ARGUMENT, "int traveller 2" + INDEX + ARGUMENT, "int leaves 2" + INDEX + ARGUMENT,
        "int costs 2" + INDEX + ARGUMENT, "int count 1" + ARGUMENT, "int setting 1" + INDEX,
        "int refusal 2" + INDEX, "int soonest 3" + INDEX + ARGUMENT, "int cheapest 4" + INDEX + ARGUMENT,
        "int reach 1" + INDEX, "int lastStart 3" + INDEX + ARGUMENT, "double joined 0", "long digest 0",
    };

    public static void main(String[] args) throws IOException {
        face();
        names();
        source();
        Checks.end("FaceTest");
    }

    private static void face() {
        Class<?> made = TideFares.class;
        Checks.holds("the class is public and final", Modifier.isPublic(made.getModifiers())
                && Modifier.isFinal(made.getModifiers()));
        Set<String> due = new TreeSet<>(Set.of(FACE));
        Set<String> got = new TreeSet<>();
        for (Method method : made.getDeclaredMethods()) {
            if (Modifier.isPrivate(method.getModifiers())) {
                continue;
            }
            Checks.holds(method + " is public and of the object", method.getModifiers() == Modifier.PUBLIC);
            StringBuilder told = new StringBuilder();
            told.append(method.getReturnType()).append(' ').append(method.getName());
            told.append(' ').append(method.getParameterCount());
            for (Class<?> type : method.getParameterTypes()) {
                Checks.holds(method + " takes ints", type == int.class);
            }
            for (Class<?> thrown : method.getExceptionTypes()) {
                told.append(' ').append(thrown.getSimpleName());
            }
            got.add(told.toString());
        }
        Checks.holds("the methods are " + got + ", due are " + due, got.equals(due));
        for (Constructor<?> constructor : made.getDeclaredConstructors()) {
            Checks.holds(constructor + " is public, without parameters",
                    constructor.getModifiers() == Modifier.PUBLIC && constructor.getParameterCount() == 0);
        }
        for (Field field : made.getDeclaredFields()) {
            boolean open = !Modifier.isPrivate(field.getModifiers());
            Checks.holds(field + " is no constant of the document", !open || field.getName().equals("NONE"));
            Checks.holds(field + " is static and not final", !Modifier.isStatic(field.getModifiers())
                    || Modifier.isFinal(field.getModifiers()));
        }
        for (Class<?> inside : made.getDeclaredClasses()) {
            Checks.holds(inside + " is static and not public", Modifier.isStatic(inside.getModifiers())
                    && !Modifier.isPublic(inside.getModifiers()) && !Modifier.isProtected(inside.getModifiers()));
        }
    }

    /** No other method, in the classes inside either, bears the name of one of the face. */
    private static void names() {
        Set<String> open = new TreeSet<>();
        for (String method : FACE) {
            open.add(method.split(" ")[1]);
        }
        for (Method method : TideFares.class.getDeclaredMethods()) {
            Checks.holds(method + " bears a public name", Modifier.isPublic(method.getModifiers())
                    || !open.contains(method.getName()));
        }
        for (Class<?> inside : TideFares.class.getDeclaredClasses()) {
            for (Method method : inside.getDeclaredMethods()) {
                Checks.holds(method + " bears a public name", !open.contains(method.getName()));
            }
        }
    }

    private static void source() throws IOException {
        String source = Files.readString(Path.of("src/main/java/TideFares.java"));
        String[] barred = {"->", "::", "Double.", "Float.", "Exact(", "String.", "System.out", "nanoTime",
            "currentTimeMillis", "Random", "Thread", "synchronized", "assert ", "finally", "catch", "try ",
            "getMessage", "Object", "equals", "hashCode", "toString", "import java.util.*", "package ", "@Override",
            "protected ", "while (true)", "for (;;)"};
        for (String word : barred) {
            Checks.holds("the source has " + word, !source.contains(word));
        }
        Matcher imports = Pattern.compile("import ([^;]*);").matcher(source);
        while (imports.find()) {
            Checks.holds("the source imports " + imports.group(1), imports.group(1).equals("java.util.Arrays"));
        }
        Matcher made = Pattern.compile("throw new (\\w+)\\(\"[^\"]+\"\\);").matcher(source);
        int thrown = 0;
        while (made.find()) {
            thrown++;
        }
        Checks.due("throws in their written form", source.split("throw ", -1).length - 1, thrown);
        // Objects are made in constructors and as exceptions alone.
        Matcher fresh = Pattern.compile("(?m)^ *(.*\\bnew .*)$").matcher(source);
        while (fresh.find()) {
            Checks.holds("made outside a constructor: " + fresh.group(1),
                    fresh.group(1).startsWith("throw new ") || fresh.group(1).matches("\\w+ = new [\\w\\[\\] *]+(\\(\\))?;"));
        }
        for (char sign : source.toCharArray()) {
            Checks.holds("the source has the sign " + (int) sign, sign == '\n' || sign >= 32 && sign < 127);
        }
    }
}
