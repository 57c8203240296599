import java.io.IOException;
import java.lang.reflect.Constructor;
import java.lang.reflect.Field;
import java.lang.reflect.Method;
import java.lang.reflect.Modifier;
import java.nio.file.Files;
import java.nio.file.Path;
import java.util.Arrays;
import java.util.Set;
import java.util.TreeSet;

/** The public face is the document's and no other, and the class keeps to the rules that can be seen from outside. */
public final class FaceTest {
    private static final String INDEX = " throws IndexOutOfBoundsException";
    private static final String BOTH = " throws IndexOutOfBoundsException, IllegalArgumentException";
    private static final Set<String> FACE = new TreeSet<>(Arrays.asList(
            "int group()",
            "int pin(int, long, long, int)" + BOTH,
            "boolean target(int, long, long)" + BOTH,
            "boolean lock(int)" + INDEX,
            "boolean pair(int, int)" + INDEX,
            "boolean bank(int, int)" + BOTH,
            "boolean needs(int, int)" + BOTH,
            "int run()",
            "int netOf(int)" + INDEX,
            "long sum()",
            "long before()",
            "long dual(int, int)" + INDEX,
            "int note(int, int)" + INDEX,
            "int gate(int) throws IllegalArgumentException",
            "boolean equalGate(int, int)" + INDEX,
            "boolean undo()",
            "int crossings()"));
    private static final String[] RULED_OUT = {
        "->", "::", "catch", "finally", "assert", "synchronized", "Exact(", "new Thread", "System.nano", "System.current"
    };

    private static int wrong;

    public static void main(String[] args) throws IOException {
        checkClass();
        checkMethods();
        checkNestedClasses();
        checkSource();
        System.out.println(wrong == 0 ? "the face is the document's" : wrong + " faults of the face");
        if (wrong != 0) {
            System.exit(1);
        }
    }

    private static void expect(boolean holds, String what) {
        if (!holds) {
            wrong++;
            System.out.println("not so: " + what);
        }
    }

    private static void checkClass() {
        int modifiers = PinSwaps.class.getModifiers();
        expect(Modifier.isPublic(modifiers) && Modifier.isFinal(modifiers), "the class is public and final");
        Constructor<?>[] constructors = PinSwaps.class.getDeclaredConstructors();
        expect(constructors.length == 1 && constructors[0].getParameterCount() == 0
                && Modifier.isPublic(constructors[0].getModifiers()), "one public constructor without parameters");
        for (Field field : PinSwaps.class.getDeclaredFields()) {
            boolean isNone = field.getName().equals("NONE") && field.getType() == int.class
                    && field.getModifiers() == (Modifier.PUBLIC | Modifier.STATIC | Modifier.FINAL);
            expect(isNone || Modifier.isPrivate(field.getModifiers()), "field " + field.getName() + " is private");
        }
    }

    private static void checkMethods() {
        Set<String> found = new TreeSet<>();
        Set<String> publicNames = new TreeSet<>();
        for (Method method : PinSwaps.class.getDeclaredMethods()) {
            if (!Modifier.isPrivate(method.getModifiers())) {
                found.add(describe(method));
                publicNames.add(method.getName());
            }
        }
        expect(found.equals(FACE), "the methods are " + FACE + ", but they are " + found);
        for (Method method : PinSwaps.class.getDeclaredMethods()) {
            boolean hidden = Modifier.isPrivate(method.getModifiers());
            expect(!hidden || !publicNames.contains(method.getName()), "private method " + method.getName() + " has a name of its own");
            expect(method.getParameterCount() <= 7, method.getName() + " takes at most seven parameters");
        }
    }

    private static String describe(Method method) {
        StringBuilder text = new StringBuilder(method.getReturnType() + " " + method.getName() + "(");
        for (int i = 0; i < method.getParameterCount(); i++) {
            text.append(i == 0 ? "" : ", ").append(method.getParameterTypes()[i]);
        }
        text.append(")");
        for (int i = 0; i < method.getExceptionTypes().length; i++) {
            text.append(i == 0 ? " throws " : ", ").append(method.getExceptionTypes()[i].getSimpleName());
        }
        return text.toString();
    }

    private static void checkNestedClasses() {
        expect(PinSwaps.class.getDeclaredClasses().length < 12, "fewer than twelve classes");
        for (Class<?> nested : PinSwaps.class.getDeclaredClasses()) {
            int modifiers = nested.getModifiers();
            expect(Modifier.isStatic(modifiers) && !Modifier.isPublic(modifiers) && !Modifier.isProtected(modifiers),
                    nested.getSimpleName() + " is static, and private or package-visible");
            expect(nested.getDeclaredFields().length <= 20, nested.getSimpleName() + " has at most twenty fields");
        }
    }

    private static void checkSource() throws IOException {
        String source = Files.readString(Path.of("src/main/java/PinSwaps.java"));
        for (String word : RULED_OUT) {
            expect(!source.contains(word), "the source is without '" + word + "'");
        }
        expect(!source.startsWith("package "), "the source is without a package line");
    }
}
