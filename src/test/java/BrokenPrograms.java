import java.io.ByteArrayOutputStream;
import java.io.IOException;
import java.io.OutputStream;
import java.io.PrintStream;
import java.lang.reflect.Method;
import java.net.URI;
import java.nio.charset.StandardCharsets;
import java.nio.file.Files;
import java.nio.file.Path;
import java.util.ArrayList;
import java.util.HashMap;
import java.util.List;
import java.util.Map;
import javax.tools.FileObject;
import javax.tools.ForwardingJavaFileManager;
import javax.tools.JavaCompiler;
import javax.tools.JavaFileManager;
import javax.tools.JavaFileObject;
import javax.tools.SimpleJavaFileObject;
import javax.tools.StandardJavaFileManager;
import javax.tools.ToolProvider;

/**
 * Breaks the program as src/test/broken.txt tells, and looks whether the test of the very quote that does not
 * hold then fails. It is run by hand (.ci/broken), for its list has to follow each change of the program.
 */
final class BrokenPrograms {
    private static final Path SOURCE = Path.of("src/main/java/PrizePurses.java");
    private static final Path BREAKS = Path.of("src/test/broken.txt");
    private static final JavaCompiler COMPILER = ToolProvider.getSystemJavaCompiler();

    private int unseen;

    private BrokenPrograms() {
    }

    public static void main(String[] args) throws Exception {
        new BrokenPrograms().run();
    }

    private void run() throws Exception {
        String program = bare(Files.readString(SOURCE, StandardCharsets.UTF_8));
        List<String> blocks = new ArrayList<>();
        for (String block : Files.readString(BREAKS, StandardCharsets.UTF_8).split("\n\n+")) {
            if (block.startsWith("= ")) {
                blocks.add(block);
            }
        }
        for (String block : blocks) {
            lookAt(block.strip(), program);
        }
        System.out.println(blocks.size() + " broken programs, " + unseen + " of them not seen by the test of the quote");
        System.exit(unseen == 0 ? 0 : 1);
    }

    /** The program without comments, with one blank where there are several: so the list can quote it. */
    private static String bare(String program) {
        return program.replaceAll("(?s)/\\*.*?\\*/", " ").replaceAll("//[^\n]*", " ").replaceAll("\\s+", " ");
    }

    private void lookAt(String block, String program) throws Exception {
        String[] lines = block.split("\n");
        String quote = lines[0].substring(2);
        String broken = program;
        for (int i = 1; i + 1 < lines.length; i += 2) {
            String old = lines[i].substring(2).strip();
            if (broken.split(java.util.regex.Pattern.quote(old), -1).length != 2) {
                unseen++;
                System.out.println(quote + "\n  the program does not have just once: " + old);
                return;
            }
            broken = broken.replace(old, lines[i + 1].substring(1).strip());
        }
        Map<String, byte[]> classes = compiled(broken);
        if (classes.isEmpty()) {
            unseen++;
            System.out.println(quote + "\n  the broken program does not compile");
            return;
        }
        int wrong = wrongAt(quote, classes);
        if (wrong <= 0) {
            unseen++;
            System.out.println(block + (wrong < 0 ? "\n  is no quote" : "\n  its test does not fail"));
        }
    }

    private static int wrongAt(String quote, Map<String, byte[]> classes) throws Exception {
        Method test = new Loader(classes).loadClass("SentencesTest").getDeclaredMethod("wrongAt", String.class);
        test.setAccessible(true);
        PrintStream out = System.out;
        System.setOut(new PrintStream(OutputStream.nullOutputStream()));
        try {
            return (Integer) test.invoke(null, quote);
        } finally {
            System.setOut(out);
        }
    }

    private static Map<String, byte[]> compiled(String program) throws IOException {
        JavaFileObject source = new SimpleJavaFileObject(URI.create("string:///PrizePurses.java"),
                JavaFileObject.Kind.SOURCE) {
            @Override
            public CharSequence getCharContent(boolean ignoreErrors) {
                return program;
            }
        };
        try (StandardJavaFileManager files = COMPILER.getStandardFileManager(null, null, null)) {
            Memory memory = new Memory(files);
            boolean done = COMPILER.getTask(null, memory, problem -> { }, null, null, List.of(source)).call();
            Map<String, byte[]> classes = new HashMap<>();
            if (done) {
                memory.classes.forEach((name, bytes) -> classes.put(name, bytes.toByteArray()));
            }
            return classes;
        }
    }

    private static final class Memory extends ForwardingJavaFileManager<JavaFileManager> {
        private final Map<String, ByteArrayOutputStream> classes = new HashMap<>();

        Memory(JavaFileManager files) {
            super(files);
        }

        @Override
        public JavaFileObject getJavaFileForOutput(Location location, String name, JavaFileObject.Kind kind,
                FileObject sibling) {
            ByteArrayOutputStream bytes = new ByteArrayOutputStream();
            classes.put(name, bytes);
            return new SimpleJavaFileObject(URI.create("mem:///" + name.replace('.', '/')), kind) {
                @Override
                public OutputStream openOutputStream() {
                    return bytes;
                }
            };
        }
    }

    /** Has the broken program, and tests of its own that see no other one. */
    private static final class Loader extends ClassLoader {
        private final Map<String, byte[]> classes;

        Loader(Map<String, byte[]> classes) {
            super(ClassLoader.getPlatformClassLoader());
            this.classes = classes;
        }

        @Override
        protected Class<?> findClass(String name) throws ClassNotFoundException {
            byte[] bytes = classes.get(name);
            try (var file = BrokenPrograms.class.getResourceAsStream("/" + name.replace('.', '/') + ".class")) {
                if (bytes == null && file != null) {
                    bytes = file.readAllBytes();
                }
            } catch (IOException e) {
                throw new ClassNotFoundException(name, e);
            }
            if (bytes == null) {
                throw new ClassNotFoundException(name);
            }
            return defineClass(name, bytes, 0, bytes.length);
        }
    }
}
