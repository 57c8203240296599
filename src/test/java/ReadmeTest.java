import java.io.File;
import java.io.IOException;
import java.lang.reflect.Method;
import java.lang.reflect.Modifier;
import java.nio.file.Files;
import java.nio.file.Path;
import java.util.ArrayDeque;
import java.util.Deque;
import java.util.List;

/** The README's example answers what stands beside it, and the README names every call and every test. */
public final class ReadmeTest {
    /** The lines of the example that are not looked at yet. */
    private static final Deque<String> EXAMPLE = new ArrayDeque<>();

    private static int wrong;

    public static void main(String[] args) throws IOException {
        String readme = Files.readString(Path.of("README.md"));
        findExample(readme.lines().toList());
        playExample();
        everyCallIsNamed(readme);
        everyTestIsNamed(readme);
        System.out.println(wrong == 0 ? "the README is true" : wrong + " faults of the README");
        if (wrong != 0) {
            System.exit(1);
        }
    }

    private static void expect(boolean holds, String what) {
        if (!holds) {
            wrong++;
            System.out.println("not so: " + what);
        }
    }

    private static void findExample(List<String> lines) {
        int start = lines.indexOf("```java");
        expect(start >= 0, "there is an example");
        for (int i = start + 1; start >= 0 && i < lines.size() && !lines.get(i).equals("```"); i++) {
            EXAMPLE.add(lines.get(i));
        }
    }

    private static void playExample() {
        PinSwaps board = new PinSwaps();
        next("PinSwaps board = new PinSwaps();");
        int group = board.group();
        next("int group = board.group();");
        int a = board.pin(group, 0, 0, 5);
        next("int a = board.pin(group, 0, 0, 5);");
        board.pin(group, 10, 0, 6);
        next("int b = board.pin(group, 10, 0, 6);");
        answers("board.target(5, 10, 3);", board.target(5, 10, 3));
        answers("board.target(6, 0, 3);", board.target(6, 0, 3));
        answers("board.sum();", board.sum());
        answers("board.crossings();", board.crossings());
        answers("board.dual(0, a);", board.dual(0, a));
        answers("board.run();", board.run());
        answers("board.sum();", board.sum());
        answers("board.before();", board.before());
        answers("board.note(0, 2);", board.note(0, 2));
        answers("board.undo();", board.undo());
        answers("board.netOf(a);", board.netOf(a));
        expect(EXAMPLE.isEmpty(), "the example has no more lines than the test: " + EXAMPLE);
    }

    private static String next(String call) {
        String line = EXAMPLE.isEmpty() ? "" : EXAMPLE.remove();
        expect(line.startsWith(call), "the next line of the example is " + call + ", but it is " + line);
        return line;
    }

    private static void answers(String call, Object got) {
        String said = next(call).replaceFirst(".*// ", "").replaceFirst(":.*", "");
        expect(said.equals(String.valueOf(got)), call + " answers " + said + ", but it answered " + got);
    }

    private static void everyCallIsNamed(String readme) {
        for (Method method : PinSwaps.class.getDeclaredMethods()) {
            if (Modifier.isPublic(method.getModifiers())) {
                expect(readme.contains("\n| `" + method.getName() + "("), "there is a row for " + method.getName());
            }
        }
    }

    private static void everyTestIsNamed(String readme) {
        String[] tests = new File("src/test/java").list();
        expect(tests != null && tests.length > 0, "there are tests");
        for (String test : tests == null ? new String[0] : tests) {
            expect(readme.contains("`src/test/java/" + test + "`"), "there is a line for " + test);
        }
    }
}
