import java.io.IOException;
import java.lang.reflect.Field;
import java.nio.file.Files;
import java.nio.file.Path;
import java.util.ArrayList;
import java.util.List;
import java.util.regex.Matcher;
import java.util.regex.Pattern;
import java.util.stream.Stream;

/**
 * The tests ask no object for more than the 512 calls for which it is used: what it answers later is free. They
 * are run once more, with a program that counts. Two sentences may ask more: the one of those later calls, and
 * the one of the day 9999, which 512 calls can't reach.
 */
final class CallsTest {
    private static final Class<?>[] TESTS = {
        ChildrenTest.class, ForecastsTest.class, OrdersTest.class, RandomRunsTest.class, ReadmeTest.class,
        RoundsTest.class, SentencesTest.class, SourceRulesTest.class, StallsTest.class, UndoTest.class,
    };
    private static final Pattern CALL = Pattern.compile("(?m)^    public (?:int|boolean) \\w+\\([^)]*\\)[^{;]*\\{");
    private static final String COUNTS = " private static int over; private int calls;"
            + " private void count() { calls++; if (calls == 513) { over++; } }";

    public static void main(String[] args) throws Exception {
        Due due = new Due();
        due.is("the tests that are run", named().toString(), onDisk().toString());
        String program = counting(due);
        for (Class<?> test : TESTS) {
            ChangedProgram counted = ChangedProgram.of(program);
            // A test that fails ends this one too; it is told where it runs by itself.
            counted.call(test.getName(), "main", String[].class, new String[0]);
            Field over = counted.load("PrizePurses").getDeclaredField("over");
            over.setAccessible(true);
            due.is("objects of " + test.getName() + " asked for more than 512 calls", over.getInt(null),
                    test == SentencesTest.class ? 2 : 0);
        }
        due.end();
    }

    private static String counting(Due due) throws IOException {
        Matcher call = CALL.matcher(ChangedProgram.text());
        due.is("calls that are counted", call.results().count(), 58);
        String face = "public final class PrizePurses {";
        return call.replaceAll("$0 count();").replace(face, face + COUNTS);
    }

    private static List<String> named() {
        List<String> names = new ArrayList<>();
        for (Class<?> test : TESTS) {
            names.add(test.getName() + ".java");
        }
        return names;
    }

    /** All tests but this one. */
    private static List<String> onDisk() throws IOException {
        try (Stream<Path> files = Files.list(Path.of("src/test/java"))) {
            return files.map(file -> file.getFileName().toString())
                    .filter(name -> name.endsWith("Test.java") && !name.equals("CallsTest.java"))
                    .sorted().toList();
        }
    }
}
