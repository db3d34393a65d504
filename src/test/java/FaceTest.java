import java.io.IOException;
import java.lang.reflect.Constructor;
import java.lang.reflect.Field;
import java.lang.reflect.Method;
import java.lang.reflect.Modifier;
import java.nio.file.Files;
import java.nio.file.Path;
import java.util.Set;
import java.util.TreeSet;

/** The public face, and those rules of LANGUAGE.md that can be seen from the class and its text. */
public final class FaceTest {
    private static final String[] FACE = {
        "public boolean SquareCodes.type(char)",
        "public int SquareCodes.write(int,int) throws java.lang.IllegalArgumentException,java.lang.IllegalStateException",
        "public int SquareCodes.module(int,int)",
        "public int SquareCodes.flip(int,int) throws java.lang.IllegalArgumentException",
        "public int SquareCodes.row(int)",
        "public int SquareCodes.ugliness()",
        "public int SquareCodes.read() throws java.lang.IllegalStateException,"
            + "java.lang.IllegalArgumentException,java.lang.UnsupportedOperationException",
        "public int SquareCodes.text(int)",
        "public int SquareCodes.told(int)",
        "public int SquareCodes.taken(int)"};

    public static void main(String[] args) throws IOException {
        Due.same("the modifiers", SquareCodes.class.getModifiers(), Modifier.PUBLIC | Modifier.FINAL);
        Due.same("NONE", SquareCodes.NONE, -1);
        methods();
        constructors();
        fields(SquareCodes.class);
        classesInside();
        theText();
        Due.end();
    }

    private static void methods() {
        Set<String> seen = new TreeSet<>();
        for (Method method : SquareCodes.class.getDeclaredMethods()) {
            if (!Modifier.isPrivate(method.getModifiers())) {
                seen.add(method.toString());
            }
        }
        Due.same("the methods that can be seen", seen, new TreeSet<>(Set.of(FACE)));
        privateNames(SquareCodes.class);
    }

    private static void privateNames(Class<?> of) {
        Set<String> names = Set.of("type", "write", "module", "flip", "row", "ugliness", "read", "text", "told", "taken");
        for (Method method : of.getDeclaredMethods()) {
            boolean hidden = of != SquareCodes.class || Modifier.isPrivate(method.getModifiers());
            Due.holds(method + " has a name of its own", !hidden || !names.contains(method.getName()));
            Due.holds(method + " has at most seven parameters", method.getParameterCount() <= 7);
        }
    }

    private static void constructors() {
        Constructor<?>[] all = SquareCodes.class.getDeclaredConstructors();
        Due.same("the constructors", all.length, 1);
        Due.same("the constructor", all[0].toString(), "public SquareCodes()");
    }

    private static void fields(Class<?> of) {
        for (Field field : of.getDeclaredFields()) {
            int m = field.getModifiers();
            boolean constant = of.isEnum() && field.isEnumConstant();
            boolean shown = field.getName().equals("NONE") && of == SquareCodes.class;
            Due.holds(field + " is private", Modifier.isPrivate(m) || constant || shown && Modifier.isPublic(m));
            Due.holds(field + " is final if it is static", !Modifier.isStatic(m) || Modifier.isFinal(m));
        }
    }

    private static void classesInside() {
        Class<?>[] inside = SquareCodes.class.getDeclaredClasses();
        Due.holds("at most twelve classes", inside.length <= 12);
        for (Class<?> one : inside) {
            int m = one.getModifiers();
            Due.holds(one + " is static and not public", Modifier.isStatic(m) && !Modifier.isPublic(m));
            fields(one);
            privateNames(one);
        }
    }

    private static void theText() throws IOException {
        String text = Files.readString(Path.of("src/main/java/SquareCodes.java"));
        for (String ruledOut : new String[] {"->", "::", "package ", "finally", "synchronized", "assert ", "double",
            "float", "System.out", "Random", "nanoTime", "currentTimeMillis", "Thread", "Exact(", "static {"}) {
            Due.holds("no " + ruledOut + " in the text", !text.contains(ruledOut));
        }
        for (String line : text.split("\n")) {
            Due.holds(line + " is an import that is listed",
                !line.startsWith("import ") || line.matches("import java\\.util\\.(Arrays|ArrayList|List);"));
        }
    }
}
