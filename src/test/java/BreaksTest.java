import java.io.ByteArrayOutputStream;
import java.io.IOException;
import java.io.InputStream;
import java.io.OutputStream;
import java.lang.reflect.Method;
import java.net.URI;
import java.nio.file.Files;
import java.nio.file.Path;
import java.util.ArrayList;
import java.util.HashMap;
import java.util.List;
import java.util.Map;
import java.util.TreeSet;
import java.util.Set;
import javax.tools.Diagnostic;
import javax.tools.DiagnosticCollector;
import javax.tools.FileObject;
import javax.tools.ForwardingJavaFileManager;
import javax.tools.JavaCompiler;
import javax.tools.JavaFileManager;
import javax.tools.JavaFileObject;
import javax.tools.SimpleJavaFileObject;
import javax.tools.ToolProvider;

/**
 * The tests of the boundaries would fail if their sentences were broken: each break that they name
 * is made in the source, and the test is run on what comes of it. The sentences stand in the
 * document, under the promise that is told.
 */
public final class BreaksTest {
    private static final Check CHECK = new Check();
    private static final Class<?>[] TESTS = {DraftBoundariesTest.class, HeapBoundariesTest.class,
        TwoHeapsBoundariesTest.class};
    private static final int PROMISES = 26;

    private BreaksTest() {
    }

    public static void main(String[] args) throws IOException {
        sentences(Files.readString(Path.of("../shared/DOC.md")));
        String source = Files.readString(Path.of("src/main/java/HeapTower.java"));
        List<Broken> all = new ArrayList<>();
        for (Class<?> tests : TESTS) {
            for (Method m : Bench.testsOf(tests)) {
                Break[] breaks = m.getAnnotationsByType(Break.class);
                CHECK.holds(m.getName() + " names a break", breaks.length > 0);
                for (Break b : breaks) {
                    all.add(new Broken(m, b, source));
                }
            }
        }
        all.parallelStream().forEach(Broken::run);
        for (Broken broken : all) {
            CHECK.holds(broken.toString(), broken.verdict.isEmpty());
        }
        CHECK.end();
    }

    // ---- the sentences

    private static void sentences(String document) {
        String[] parts = document.split("\n## Promise \\d+: ");
        CHECK.due("promises", parts.length - 1, PROMISES);
        Set<Integer> seen = new TreeSet<>();
        for (Class<?> tests : TESTS) {
            for (Method m : Bench.testsOf(tests)) {
                Says says = m.getAnnotation(Says.class);
                seen.add(says.promise());
                boolean stands = oneLine(parts[says.promise()]).contains(oneLine(says.value()));
                CHECK.holds(m.getName() + " quotes the document", stands);
            }
        }
        CHECK.due("promises with tests, and what is ahead of them", seen.size(), PROMISES + 1);
    }

    private static String oneLine(String text) {
        return text.replaceAll("\\s+", " ");
    }

    /** A break of a test: what comes of the source by it. */
    private static final class Broken {
        private final Method test;
        private final Break change;
        private final String source;
        private String verdict = "it was not run";

        Broken(Method test, Break change, String source) {
            this.test = test;
            this.change = change;
            this.source = source;
        }

        void run() {
            int at = source.indexOf(change.at());
            int from = at < 0 ? -1 : source.indexOf(change.from(), at);
            if (from < 0) {
                verdict = "its place is not in the source";
                return;
            }
            String changed = source.substring(0, from) + change.to() + source.substring(from + change.from().length());
            Memory memory = new Memory();
            String wrong = memory.compile(changed);
            verdict = !wrong.isEmpty() ? wrong : testFails(memory) ? "" : "the test does not fail";
        }

        private boolean testFails(Memory memory) {
            try {
                Class<?> bench = memory.loader().loadClass("Bench");
                Class<?> tests = bench.getClassLoader().loadClass(test.getDeclaringClass().getName());
                Method fails = bench.getDeclaredMethod("fails", Class.class, String.class);
                fails.setAccessible(true);
                return (boolean) fails.invoke(null, tests, test.getName());
            } catch (ReflectiveOperationException e) {
                throw new IllegalStateException(e);
            }
        }

        @Override
        public String toString() {
            return test.getName() + ", " + change.at() + " [" + change.from() + "] [" + change.to() + "]: " + verdict;
        }
    }

    /** The classes of a changed source, held in memory. */
    private static final class Memory {
        private final Map<String, ByteArrayOutputStream> classes = new HashMap<>();

        /** What is wrong with the source; nothing if it compiles. */
        String compile(String source) {
            JavaCompiler compiler = ToolProvider.getSystemJavaCompiler();
            DiagnosticCollector<JavaFileObject> said = new DiagnosticCollector<>();
            JavaFileManager files = new ForwardingJavaFileManager<JavaFileManager>(
                    compiler.getStandardFileManager(said, null, null)) {
                @Override
                public JavaFileObject getJavaFileForOutput(Location location, String name, JavaFileObject.Kind kind,
                        FileObject sibling) {
                    return output(name);
                }
            };
            JavaFileObject text = new SimpleJavaFileObject(URI.create("string:///HeapTower.java"),
                    JavaFileObject.Kind.SOURCE) {
                @Override
                public CharSequence getCharContent(boolean ignoreErrors) {
                    return source;
                }
            };
            boolean fine = compiler.getTask(null, files, said, List.of("-proc:none"), null, List.of(text)).call();
            for (Diagnostic<?> d : said.getDiagnostics()) {
                if (d.getKind() == Diagnostic.Kind.ERROR) {
                    return d.getMessage(null);
                }
            }
            return fine ? "" : "it does not compile";
        }

        private JavaFileObject output(String name) {
            ByteArrayOutputStream bytes = new ByteArrayOutputStream();
            classes.put(name, bytes);
            return new SimpleJavaFileObject(URI.create("bytes:///" + name.replace('.', '/')),
                    JavaFileObject.Kind.CLASS) {
                @Override
                public OutputStream openOutputStream() {
                    return bytes;
                }
            };
        }

        /** Loads the project's classes anew, and the changed ones in place of those that are compiled. */
        ClassLoader loader() {
            return new ClassLoader(BreaksTest.class.getClassLoader()) {
                @Override
                protected Class<?> loadClass(String name, boolean resolve) throws ClassNotFoundException {
                    Class<?> loaded = findLoadedClass(name);
                    if (loaded != null) {
                        return loaded;
                    }
                    byte[] bytes = classes.containsKey(name) ? classes.get(name).toByteArray() : compiled(name);
                    return bytes == null ? super.loadClass(name, resolve) : defineClass(name, bytes, 0, bytes.length);
                }
            };
        }

        /** The project's classes have no package. */
        private static byte[] compiled(String name) throws ClassNotFoundException {
            if (name.indexOf('.') >= 0) {
                return null;
            }
            try (InputStream in = BreaksTest.class.getResourceAsStream("/" + name + ".class")) {
                return in == null ? null : in.readAllBytes();
            } catch (IOException e) {
                throw new ClassNotFoundException(name, e);
            }
        }
    }
}
