import java.io.ByteArrayOutputStream;
import java.io.IOException;
import java.io.OutputStream;
import java.io.PrintStream;
import java.lang.reflect.Method;
import java.net.URI;
import java.nio.charset.StandardCharsets;
import java.nio.file.Files;
import java.nio.file.Path;
import java.util.ArrayList;
import java.util.HashMap;
import java.util.List;
import java.util.Map;
import javax.tools.FileObject;
import javax.tools.ForwardingJavaFileManager;
import javax.tools.JavaCompiler;
import javax.tools.JavaFileManager;
import javax.tools.JavaFileObject;
import javax.tools.SimpleJavaFileObject;
import javax.tools.StandardJavaFileManager;
import javax.tools.ToolProvider;

/** A changed text of the program, compiled in memory, and the tests of this class path, which see no other one. */
final class ChangedProgram {
    private static final Path SOURCE = Path.of("src/main/java/PrizePurses.java");
    private static final JavaCompiler COMPILER = ToolProvider.getSystemJavaCompiler();

    private final Map<String, byte[]> classes;
    private final Loader loader;

    private ChangedProgram(Map<String, byte[]> classes) {
        this.classes = classes;
        loader = new Loader(classes);
    }

    /** The text of the program as it stands. */
    static String text() throws IOException {
        return Files.readString(SOURCE, StandardCharsets.UTF_8);
    }

    /** Compiles the program, and what else is to see it: a class and its text, in turn. */
    static ChangedProgram of(String program, String... others) throws IOException {
        List<JavaFileObject> sources = new ArrayList<>();
        sources.add(new Text("PrizePurses", program));
        for (int i = 0; i < others.length; i += 2) {
            sources.add(new Text(others[i], others[i + 1]));
        }
        try (StandardJavaFileManager files = COMPILER.getStandardFileManager(null, null, null)) {
            Memory memory = new Memory(files);
            boolean done = COMPILER.getTask(null, memory, problem -> { }, null, null, sources).call();
            Map<String, byte[]> classes = new HashMap<>();
            if (done) {
                memory.classes.forEach((name, bytes) -> classes.put(name, bytes.toByteArray()));
            }
            return new ChangedProgram(classes);
        }
    }

    boolean compiles() {
        return !classes.isEmpty();
    }

    Class<?> load(String name) throws ClassNotFoundException {
        return loader.loadClass(name);
    }

    /** Calls a static method of one of the classes and returns what it answers; what it prints is not shown. */
    Object call(String name, String method, Class<?> type, Object argument) throws ReflectiveOperationException {
        Method called = load(name).getDeclaredMethod(method, type);
        called.setAccessible(true);
        PrintStream out = System.out;
        System.setOut(new PrintStream(OutputStream.nullOutputStream()));
        try {
            return called.invoke(null, argument);
        } finally {
            System.setOut(out);
        }
    }

    private static final class Text extends SimpleJavaFileObject {
        private final String text;

        Text(String name, String text) {
            super(URI.create("string:///" + name + ".java"), Kind.SOURCE);
            this.text = text;
        }

        @Override
        public CharSequence getCharContent(boolean ignoreErrors) {
            return text;
        }
    }

    private static final class Memory extends ForwardingJavaFileManager<JavaFileManager> {
        private final Map<String, ByteArrayOutputStream> classes = new HashMap<>();

        Memory(JavaFileManager files) {
            super(files);
        }

        @Override
        public JavaFileObject getJavaFileForOutput(Location location, String name, JavaFileObject.Kind kind,
                FileObject sibling) {
            ByteArrayOutputStream bytes = new ByteArrayOutputStream();
            classes.put(name, bytes);
            return new SimpleJavaFileObject(URI.create("mem:///" + name.replace('.', '/')), kind) {
                @Override
                public OutputStream openOutputStream() {
                    return bytes;
                }
            };
        }
    }

    private static final class Loader extends ClassLoader {
        private final Map<String, byte[]> classes;

        Loader(Map<String, byte[]> classes) {
            super(ClassLoader.getPlatformClassLoader());
            this.classes = classes;
        }

        @Override
        protected Class<?> findClass(String name) throws ClassNotFoundException {
            byte[] bytes = classes.get(name);
            try (var file = ChangedProgram.class.getResourceAsStream("/" + name.replace('.', '/') + ".class")) {
                if (bytes == null && file != null) {
                    bytes = file.readAllBytes();
                }
            } catch (IOException e) {
                throw new ClassNotFoundException(name, e);
            }
            if (bytes == null) {
                throw new ClassNotFoundException(name);
            }
            return defineClass(name, bytes, 0, bytes.length);
        }
    }
}
