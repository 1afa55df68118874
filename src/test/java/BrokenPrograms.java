import java.nio.charset.StandardCharsets;
import java.nio.file.Files;
import java.nio.file.Path;
import java.util.ArrayList;
import java.util.List;
import java.util.regex.Pattern;

/**
 * Breaks the program as src/test/broken.txt tells, and looks whether the test of the very quote that does not
 * hold then fails. It is run by hand (.ci/broken), for its list has to follow each change of the program.
 */
final class BrokenPrograms {
    static final Path BREAKS = Path.of("src/test/broken.txt");

    private int unseen;

    private BrokenPrograms() {
    }

    public static void main(String[] args) throws Exception {
        new BrokenPrograms().run();
    }

    private void run() throws Exception {
        String program = bare(ChangedProgram.text());
        List<String> blocks = new ArrayList<>();
        for (String block : Files.readString(BREAKS, StandardCharsets.UTF_8).split("\n\n+")) {
            if (block.startsWith("= ")) {
                blocks.add(block);
            }
        }
        for (String block : blocks) {
            lookAt(block.strip(), program);
        }
        System.out.println(blocks.size() + " broken programs, " + unseen + " of them not seen by the test of the quote");
        System.exit(unseen == 0 ? 0 : 1);
    }

    /** The program without comments, with one blank where there are several: so the list can quote it. */
    private static String bare(String program) {
        return program.replaceAll("(?s)/\\*.*?\\*/", " ").replaceAll("//[^\n]*", " ").replaceAll("\\s+", " ");
    }

    private void lookAt(String block, String program) throws Exception {
        String[] lines = block.split("\n");
        String quote = lines[0].substring(2);
        String broken = program;
        for (int i = 1; i + 1 < lines.length; i += 2) {
            String old = lines[i].substring(2).strip();
            if (broken.split(Pattern.quote(old), -1).length != 2) {
                unseen++;
                System.out.println(quote + "\n  the program does not have just once: " + old);
                return;
            }
            broken = broken.replace(old, lines[i + 1].substring(1).strip());
        }
        ChangedProgram changed = ChangedProgram.of(broken);
        if (!changed.compiles()) {
            unseen++;
            System.out.println(quote + "\n  the broken program does not compile");
            return;
        }
        int wrong = (Integer) changed.call("SentencesTest", "wrongAt", String.class, quote);
        if (wrong <= 0) {
            unseen++;
            System.out.println(block + (wrong < 0 ? "\n  is no quote" : "\n  its test does not fail"));
        }
    }
}
