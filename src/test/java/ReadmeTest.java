import java.io.IOException;
import java.lang.reflect.Method;
import java.nio.charset.StandardCharsets;
import java.nio.file.Files;
import java.nio.file.Path;
import java.util.ArrayList;
import java.util.Arrays;
import java.util.HashSet;
import java.util.LinkedHashMap;
import java.util.List;
import java.util.Map;
import java.util.Set;
import java.util.TreeSet;
import java.util.regex.Matcher;
import java.util.regex.Pattern;
import java.util.stream.Stream;

/** What README.md says holds: its example is run, and its tables are held against the document and the class. */
final class ReadmeTest {
    private static final Pattern EXAMPLE = Pattern.compile("(fair\\.\\w+\\(.*\\)); +// ([^:]+): .+");
    private static final Pattern CALL = Pattern.compile("public (?:int|boolean) (\\w+)\\((.*?)\\)(?: throws (.*))?;");
    private static final Pattern RANGE = Pattern.compile("(\\d+) to (?:(\\d+)|`(\\w+)\\(\\)` - 1).*");
    private static final Due DUE = new Due();

    /** The rows of a table by what stands first in them, without its marks. */
    private static final Map<String, List<String>> ROWS = new LinkedHashMap<>();
    /** The calls of the document's face, each with its arguments, and with what it throws. */
    private static final Map<String, List<String>> TAKES = new LinkedHashMap<>();
    private static final Map<String, List<String>> THROWS = new LinkedHashMap<>();

    public static void main(String[] args) throws Exception {
        String readme = Files.readString(Path.of("README.md"), StandardCharsets.UTF_8);
        readTables(readme);
        readFace(Files.readString(Path.of("../shared/DOC.md"), StandardCharsets.UTF_8));
        example(readme);
        calls();
        exceptions();
        arguments();
        tests();
        numbers(readme);
        DUE.end();
    }

    /** Rows are told apart by their first word and by the head of their table: "call if: `build`". */
    private static void readTables(String readme) {
        String head = "";
        for (String line : readme.split("\n")) {
            if (!line.startsWith("|")) {
                head = "";
                continue;
            }
            String[] cells = line.substring(1).strip().split(" *\\| *", -1);
            List<String> row = Arrays.stream(cells).map(String::strip).toList();
            if (head.isEmpty()) {
                head = row.get(0) + " " + row.get(1) + ": ";
            } else if (!row.get(0).startsWith("---")) {
                ROWS.put(head + row.get(0).replace("`", ""), row);
            }
        }
    }

    private static List<String> rowsOf(String head) {
        return ROWS.keySet().stream().filter(key -> key.startsWith(head)).map(key -> key.substring(head.length()))
                .toList();
    }

    private static void readFace(String document) {
        Matcher call = CALL.matcher(document.substring(document.indexOf("```java"), document.indexOf("## Terms")));
        while (call.find()) {
            List<String> names = new ArrayList<>();
            for (String argument : call.group(2).split(", ")) {
                if (!argument.isEmpty()) {
                    names.add(argument.substring(argument.indexOf(' ') + 1));
                }
            }
            TAKES.put(call.group(1), names);
            THROWS.put(call.group(1), call.group(3) == null ? List.of() : List.of(call.group(3).split(", ")));
        }
        DUE.is("calls of the face", TAKES.size(), 58);
    }

    /** The example compiles, and each line answers, or throws, what stands behind it. */
    private static void example(String readme) throws Exception {
        String block = readme.substring(readme.indexOf("```java\n") + 8);
        String[] lines = block.substring(0, block.indexOf("```")).split("\n");
        DUE.is("the example begins with", lines[0], "PrizePurses fair = new PrizePurses();");
        StringBuilder code = new StringBuilder("final class Example { static String run(String between) {"
                + " StringBuilder all = new StringBuilder(); " + lines[0]);
        StringBuilder want = new StringBuilder();
        for (int i = 1; i < lines.length; i++) {
            Matcher line = EXAMPLE.matcher(lines[i]);
            DUE.is("form of " + lines[i], line.matches(), true);
            code.append(" try { all.append(").append(line.group(1)).append("); } catch (RuntimeException e) {")
                    .append(" all.append(\"throws \").append(e.getClass().getSimpleName()); } all.append(between);");
            want.append(line.group(2)).append('\n');
        }
        code.append(" return all.toString(); } }");
        ChangedProgram example = ChangedProgram.of(ChangedProgram.text(), "Example", code.toString());
        DUE.is("the example compiles", example.compiles(), true);
        DUE.is("the example", (String) example.call("Example", "run", String.class, "\n"), want.toString());
    }

    /** The table of calls has those of the face in their order, with the names of their arguments. */
    private static void calls() {
        List<String> due = new ArrayList<>();
        TAKES.forEach((call, names) -> due.add(call + "(" + String.join(", ", names) + ")"));
        DUE.is("the calls", String.join("\n", rowsOf("call its answer: ")), String.join("\n", due));
        Set<String> actions = new HashSet<>(List.of("build", "pullDown", "setPrice", "turnStall", "restock", "fund",
                "collect", "come", "setRain", "pass", "carryOut", "restoreSnapshot"));
        ROWS.forEach((key, row) -> {
            if (key.startsWith("call its answer: ")) {
                String call = key.substring("call its answer: ".length(), key.indexOf('('));
                DUE.is(call + " is an action", row.get(1).matches("(one )?action; .*"), actions.contains(call));
            }
        });
    }

    /** What the document lets a call throw is what its arguments and the table of states tell, in that order. */
    private static void exceptions() {
        List<String> ofState = rowsOf("call if: ");
        TAKES.forEach((call, names) -> {
            List<String> told = new ArrayList<>();
            for (String thrown : new String[] {"IndexOutOfBoundsException", "IllegalArgumentException"}) {
                if (names.stream().anyMatch(name -> thrownFor(name).equals(thrown))) {
                    told.add(thrown);
                }
            }
            if (ofState.contains(call)) {
                told.add("IllegalStateException");
            }
            DUE.is("what " + call + " throws", told.toString(), THROWS.get(call).toString());
        });
        List<String> due = THROWS.keySet().stream()
                .filter(call -> THROWS.get(call).contains("IllegalStateException")).toList();
        DUE.is("calls that look at the state", ofState.toString(), due.toString());
    }

    private static List<String> argument(String name) {
        return ROWS.getOrDefault("argument what it may be: " + name, List.of("", "", ""));
    }

    private static String thrownFor(String name) {
        return argument(name).get(2).replace("`", "");
    }

    /** Each argument of each call: the least and the greatest are taken, one less and one more are refused. */
    private static void arguments() throws ReflectiveOperationException {
        Set<String> seen = new TreeSet<>();
        for (Method call : PrizePurses.class.getMethods()) {
            List<String> names = TAKES.getOrDefault(call.getName(), List.of());
            for (int i = 0; i < names.size() && call.getDeclaringClass() == PrizePurses.class; i++) {
                seen.add(names.get(i));
                Matcher range = RANGE.matcher(argument(names.get(i)).get(1));
                if (range.matches()) {
                    int least = Integer.parseInt(range.group(1));
                    int most = range.group(2) == null ? 2 : Integer.parseInt(range.group(2));
                    taken(call, names, i, least, true);
                    taken(call, names, i, most, true);
                    taken(call, names, i, least - 1, false);
                    taken(call, names, i, most + 1, false);
                } else {
                    DUE.is(names.get(i) + " has no range", thrownFor(names.get(i)), "");
                }
            }
        }
        DUE.is("the arguments", new TreeSet<>(rowsOf("argument what it may be: ")).toString(), seen.toString());
    }

    /** On a busy fair, with three stalls and three children, whose other arguments are right. */
    private static void taken(Method call, List<String> names, int which, int value, boolean right)
            throws ReflectiveOperationException {
        PrizePurses x = Scene.busy();
        Object[] arguments = new Object[names.size()];
        for (int i = 0; i < arguments.length; i++) {
            Class<?> type = call.getParameterTypes()[i];
            int least = names.get(i).matches("price|many|coins|rounds") ? 1 : 0;
            arguments[i] = type == boolean.class ? (Object) false : type == char.class ? (Object) 'p' : least;
        }
        arguments[which] = value;
        String thrown = "";
        try {
            call.invoke(x, arguments);
        } catch (java.lang.reflect.InvocationTargetException e) {
            thrown = e.getCause().getClass().getSimpleName();
        }
        String what = call.getName() + Arrays.toString(arguments);
        // The state may refuse what is right, 40 prizes among them.
        DUE.is(what, right && thrown.equals("IllegalStateException") ? "" : thrown,
                right ? "" : thrownFor(names.get(which)));
    }

    /** The table of tests has all that .ci/run finds, and the files that the text names are there. */
    private static void tests() throws IOException {
        try (Stream<Path> files = Files.list(Path.of("src/test/java"))) {
            Set<String> due = new TreeSet<>();
            files.map(file -> file.getFileName().toString()).filter(name -> name.endsWith("Test.java"))
                    .forEach(name -> due.add(name.replace(".java", "")));
            DUE.is("the tests", rowsOf("test what it looks at: ").toString(), due.toString());
        }
        for (String script : new String[] {".ci/run", ".ci/broken"}) {
            DUE.is(script + " can be run", Files.isExecutable(Path.of(script)), true);
        }
    }

    private static void numbers(String readme) throws IOException {
        String breaks = Files.readString(BrokenPrograms.BREAKS, StandardCharsets.UTF_8);
        Set<String> quotes = new HashSet<>();
        int ways = 0;
        for (String line : breaks.split("\n")) {
            if (line.startsWith("= ")) {
                quotes.add(line);
                ways++;
            }
        }
        DUE.is("quotes that are broken", quotes.size(), SentencesTest.quotes());
        has(readme, "Its " + SentencesTest.quotes() + " quotes must tile");
        has(readme, "breaks the program in the " + ways + " ways");
        has(readme, RandomRunsTest.RUNS + " runs of " + RandomRunsTest.CALLS + " calls");
    }

    private static void has(String readme, String words) {
        DUE.is("README.md has: " + words, readme.contains(words), true);
    }
}
