import java.io.IOException;
import java.nio.charset.StandardCharsets;
import java.nio.file.Files;
import java.nio.file.Path;
import java.util.HashSet;
import java.util.LinkedHashMap;
import java.util.List;
import java.util.Map;
import java.util.Set;
import java.util.regex.Matcher;
import java.util.regex.Pattern;

/**
 * The document, chapter by chapter ("What it is", "RAIN", "Promise 7"), up to what it does not promise: its words
 * are quoted in their order, each quote with a test of its own, and no word may be left out. So a sentence
 * without a test is seen.
 */
final class Sentences {
    interface Test {
        void run(Due due);
    }

    interface Value {
        long answer(PrizePurses x, int value);
    }

    private static final Path DOCUMENT = Path.of("../shared/DOC.md");
    private static final Pattern TERMS = Pattern.compile("([A-Z][A-Z ]+)\\. (.*)");
    private static final Pattern PROMISE = Pattern.compile("## (Promise \\d+): .*");

    private final Due due = new Due();
    /** The one quote, with its chapter, whose test is run; null for all of them. */
    private final String only;
    /** What is still to be quoted of each chapter. */
    private final Map<String, String> rest = new LinkedHashMap<>();
    /** What the promises say before their words: the methods, as the public face has them. */
    private final Set<String> signatures = new HashSet<>();
    private String chapter = "";
    private int quoted;
    private int told;

    Sentences(String only) throws IOException {
        this.only = only;
        List<String> lines = Files.readAllLines(DOCUMENT, StandardCharsets.UTF_8);
        for (String line : lines.subList(lines.indexOf("## What it is"), lines.indexOf("## Not promised"))) {
            read(line.strip());
        }
    }

    private void read(String line) {
        Matcher terms = TERMS.matcher(line);
        Matcher promise = PROMISE.matcher(line);
        boolean begins = !rest.containsKey(chapter);
        if (promise.matches()) {
            chapter = promise.group(1);
        } else if (line.startsWith("## ")) {
            chapter = line.substring("## ".length());
        } else if (terms.matches()) {
            chapter = terms.group(1);
            add(terms.group(2));
        } else if (line.startsWith("The constants: ")) {
            chapter = "The constants";
            add(line.substring("The constants: ".length()));
        } else if (line.startsWith("Ahead of the calls ")) {
            chapter = "The interface";
            add(line);
        } else if (chapter.startsWith("Promise ") && begins && line.startsWith("`")) {
            signatures.add(line.substring(1, line.indexOf("`: ")));
            add(line.substring(line.indexOf("`: ") + 3));
        } else if (!line.isEmpty() && !line.startsWith("```")) {
            add(line.replaceFirst("^(- |\\d\\. )", ""));
        }
    }

    private void add(String words) {
        rest.merge(chapter, words, (before, more) -> before + " " + more);
    }

    /** Tells whether one of the promises has the method. */
    boolean promises(String signature) {
        return signatures.contains(signature);
    }

    void chapter(String name) {
        chapter = name;
        if (!rest.containsKey(name)) {
            due.about("");
            due.is("a chapter " + name + " in the document", false, true);
            rest.put(name, "");
        }
    }

    /** The words that come next in the chapter, and the test that fails if they do not hold. */
    void holds(String words, Test test) {
        String left = rest.get(chapter);
        due.about("");
        if (left.startsWith(words)) {
            rest.put(chapter, left.substring(words.length()).strip());
        } else {
            due.is(chapter + ", what comes next", left, words);
        }
        quoted++;
        String quote = chapter + " | " + words;
        if (only == null || only.equals(quote)) {
            run(quote, test);
        }
    }

    private void run(String quote, Test test) {
        due.about(quote + " | ");
        told++;
        try {
            test.run(due);
        } catch (RuntimeException e) {
            StackTraceElement[] at = e.getStackTrace();
            due.is("the test ended with " + e + (at.length > 0 ? " at " + at[0] : ""), false, true);
        }
    }

    /** A line that names what an argument may be: all values from least to most are taken. */
    void takes(String words, int least, int most, Due.Maker fair, Value call) {
        holds(words, due -> {
            for (int value = least; value <= most; value++) {
                PrizePurses x = fair.make();
                int taken = value;
                due.taken(value + "", () -> call.answer(x, taken));
            }
        });
    }

    /** "This is an action.": the state before it is recorded, just once, and undo brings it back. */
    void action(Due.CallOn call) {
        holds("This is an action.", due -> {
            PrizePurses x = Scene.busy();
            int recorded = x.recordedStates();
            call.answer(x);
            due.is("one state more", x.recordedStates(), recorded + 1);
            due.is("undo", x.undo(), recorded);
            due.is("the state that was recorded", Answers.of(x), Answers.of(Scene.busy()));
        });
    }

    /** The line of an argument that is a stall. */
    void stall(Value call) {
        takes("`stall`: a stall", 0, 2, Scene::busy, call);
    }

    /** The line of what a call throws without such a stall. */
    void noStall(Value call) {
        holds("Throws `IndexOutOfBoundsException` if there is no such stall", due -> noStall(due, call));
    }

    static void noStall(Due due, Value call) {
        for (int none : new int[] {3, -1, 5, 6, Integer.MAX_VALUE, Integer.MIN_VALUE}) {
            due.noIndex("stall " + none + " of three", Scene::busy, x -> call.answer(x, none));
        }
        due.noIndex("stall 0 of a new object", PrizePurses::new, x -> call.answer(x, 0));
        due.noIndex("the last stall, of which there is one less", Scene::busyWithTwoStalls, x -> call.answer(x, 2));
        due.noIndex("stall 6 of six", Scene::sixStalls, x -> call.answer(x, 6));
    }

    /** The line of an argument that is a child. */
    void child(Value call) {
        takes("`child`: a child", 0, 2, Scene::busy, call);
    }

    /** The line of what a call throws without such a child. */
    void noChild(Value call) {
        holds("Throws `IndexOutOfBoundsException` if there is no such child", due -> {
            for (int none : new int[] {3, -1, 200, Integer.MAX_VALUE, Integer.MIN_VALUE}) {
                due.noIndex("child " + none + " of three", Scene::busy, x -> call.answer(x, none));
            }
            due.noIndex("child 0 of a new object", PrizePurses::new, x -> call.answer(x, 0));
            PrizePurses x = Scene.busy();
            x.come(1, 0, 0);
            x.undo();
            due.is("a child whose coming is undone", Due.outcome(() -> call.answer(x, 3)), "IndexOutOfBoundsException");
            PrizePurses all = Scene.twoHundred();
            due.taken("child 199 of 200", () -> call.answer(all, 199));
            due.is("child 200 of 200", Due.outcome(() -> call.answer(all, 200)), "IndexOutOfBoundsException");
        });
    }

    /** The line of what a call throws: each wrong value is refused, whatever else is right. */
    void refuses(String words, Class<? extends RuntimeException> want, Due.Maker fair, Value call, int... wrong) {
        holds(words, due -> refuses(due, "", want, fair, call, wrong));
    }

    static void refuses(Due due, String what, Class<? extends RuntimeException> want, Due.Maker fair, Value call,
            int... wrong) {
        for (int value : wrong) {
            due.refused(what + value, want, fair, x -> call.answer(x, value));
        }
        due.refused(what + "least of all", want, fair, x -> call.answer(x, Integer.MIN_VALUE));
        due.refused(what + "greatest of all", want, fair, x -> call.answer(x, Integer.MAX_VALUE));
    }

    /** Returns how many quotes there are. */
    int quoted() {
        return quoted;
    }

    /** Returns how many of them have had their tests run. */
    int told() {
        return told;
    }

    int wrong() {
        return due.wrong();
    }

    void end() {
        due.about("");
        for (Map.Entry<String, String> left : rest.entrySet()) {
            due.is(left.getKey() + ", what is not quoted", left.getValue(), "");
        }
        System.out.println(quoted + " quotes");
        due.end();
    }
}
