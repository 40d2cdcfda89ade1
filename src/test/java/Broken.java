import java.io.ByteArrayOutputStream;
import java.io.IOException;
import java.io.OutputStream;
import java.io.PrintStream;
import java.net.URI;
import java.nio.file.Files;
import java.nio.file.Path;
import java.util.ArrayList;
import java.util.HashMap;
import java.util.LinkedHashMap;
import java.util.LinkedHashSet;
import java.util.List;
import java.util.Map;
import java.util.Set;
import javax.tools.FileObject;
import javax.tools.ForwardingJavaFileManager;
import javax.tools.JavaCompiler;
import javax.tools.JavaFileManager;
import javax.tools.JavaFileObject;
import javax.tools.SimpleJavaFileObject;
import javax.tools.ToolProvider;

/**
 * Breaks the class on purpose, as src/test/broken.txt tells, and says whether the test of the sentence that is
 * broken by it fails. It is no test of the class but of its tests: .ci/broken runs it, .ci/run does not, for it
 * knows the class's own lines.
 */
public final class Broken {
    private static final String[] TESTS = {"TokenEdgeTest", "GrammarEdgeTest", "FaultEdgeTest", "ExpressionEdgeTest", "GraphEdgeTest",
        "OutputEdgeTest", "CodeEdgeTest", "RunEdgeTest", "RefusalEdgeTest"};
    private static final Path SOURCE = Path.of("src/main/java/TailTrimmer.java");
    private static final Path TABLE = Path.of("src/test/broken.txt");
    private static final long MOST_MILLISECONDS = 20_000L;

    /** One way to break a sentence: lines of the class and what stands there instead. */
    private record Break(String sentence, String from, String to) {
    }

    /** What a test class said of a class: the sentences with wrong answers, and where it ended if it did. */
    private static final class Outcome {
        final Set<String> all = new LinkedHashSet<>();
        final Set<String> failed = new LinkedHashSet<>();
        volatile boolean ended = false;
    }

    public static void main(String[] args) throws Exception {
        String source = Files.readString(SOURCE);
        List<Break> breaks = readTable();
        PrintStream out = System.out;
        System.setOut(new PrintStream(OutputStream.nullOutputStream()));
        Map<String, String> testOf = new LinkedHashMap<>();
        Map<String, byte[]> whole = compile(source);
        for (String test : TESTS) {
            for (String sentence : outcome(whole, test).all) {
                testOf.put(sentence, test);
            }
        }
        int bad = 0;
        Set<String> withBreak = new LinkedHashSet<>();
        for (Break b : breaks) {
            withBreak.add(b.sentence());
            String complaint = complaint(source, b, testOf.get(b.sentence()));
            if (!complaint.isEmpty()) {
                bad++;
                out.println(b.sentence() + "\n- " + b.from() + "\n+ " + b.to() + "\n    " + complaint);
            }
        }
        for (String sentence : testOf.keySet()) {
            if (!withBreak.contains(sentence)) {
                bad++;
                out.println(sentence + "\n    is never broken");
            }
        }
        out.println(testOf.size() + " sentences, broken in " + breaks.size() + " ways, " + bad + " complaints");
        System.exit(bad == 0 ? 0 : 1);
    }

    /** "" if the test of the sentence fails as it should. */
    private static String complaint(String source, Break b, String test) throws Exception {
        if (test == null) {
            return "no test has this sentence";
        }
        int at = source.indexOf(b.from());
        if (at < 0) {
            return "the class has no such lines";
        }
        if (source.indexOf(b.from(), at + 1) >= 0) {
            return "the class has these lines more than once";
        }
        Map<String, byte[]> classes = compile(source.substring(0, at) + b.to() + source.substring(at + b.from().length()));
        if (classes.isEmpty()) {
            return "does not compile";
        }
        Outcome o = outcome(classes, test);
        if (o.failed.contains(b.sentence())) {
            return "";
        }
        return o.failed.isEmpty() ? "no test fails" : "fails only: " + o.failed;
    }

    /** Sentences, then pairs of lines with "- " and lines with "+ "; lines with "#" and empty ones say nothing. */
    private static List<Break> readTable() throws IOException {
        List<Break> all = new ArrayList<>();
        String sentence = "";
        List<String> from = new ArrayList<>();
        List<String> to = new ArrayList<>();
        List<String> lines = new ArrayList<>(Files.readAllLines(TABLE));
        lines.add("#");
        for (String line : lines) {
            if (line.startsWith("+ ") || line.equals("+")) {
                to.add(line.equals("+") ? "" : line.substring(2));
                continue;
            }
            if (!to.isEmpty()) {
                all.add(new Break(sentence, String.join("\n", from), String.join("\n", to)));
                from.clear();
                to.clear();
            }
            if (line.startsWith("- ") || line.equals("-")) {
                from.add(line.equals("-") ? "" : line.substring(2));
            } else if (!line.isBlank() && !line.startsWith("#")) {
                sentence = line;
            }
        }
        return all;
    }

    private static Outcome outcome(Map<String, byte[]> classes, String test) throws Exception {
        Outcome o = new Outcome();
        Loader loader = new Loader(classes);
        Class<?> edges = loader.loadClass("Edges");
        var make = edges.getDeclaredConstructor();
        var look = loader.loadClass(test).getDeclaredMethod("look", edges);
        var open = edges.getDeclaredMethod("open");
        var close = edges.getDeclaredMethod("close");
        make.setAccessible(true);
        look.setAccessible(true);
        open.setAccessible(true);
        close.setAccessible(true);
        Object e = make.newInstance();
        Thread looking = new Thread(() -> {
            try {
                look.invoke(null, e);
                o.ended = true;
            } catch (ReflectiveOperationException thrown) {
                o.ended = false;
            }
        });
        looking.setDaemon(true);
        looking.start();
        looking.join(MOST_MILLISECONDS);
        if (!o.ended) {
            o.failed.add((String) open.invoke(e));
        }
        Map<?, ?> wrong = (Map<?, ?>) close.invoke(e);
        for (Map.Entry<?, ?> entry : wrong.entrySet()) {
            o.all.add((String) entry.getKey());
            if ((Integer) entry.getValue() > 0) {
                o.failed.add((String) entry.getKey());
            }
        }
        return o;
    }

    /** Loads the tests anew with each class, for they are bound to the one that they have met first. */
    private static final class Loader extends ClassLoader {
        private final Map<String, byte[]> classes;

        Loader(Map<String, byte[]> classes) {
            super(Broken.class.getClassLoader());
            this.classes = classes;
        }

        @Override
        protected Class<?> loadClass(String name, boolean resolve) throws ClassNotFoundException {
            Class<?> known = findLoadedClass(name);
            if (known != null) {
                return known;
            }
            byte[] code = classes.get(name);
            if (code == null && (name.endsWith("EdgeTest") || name.equals("Edges") || name.equals("Check"))) {
                code = fromOutside(name);
            }
            return code == null ? super.loadClass(name, resolve) : defineClass(name, code, 0, code.length);
        }

        private byte[] fromOutside(String name) throws ClassNotFoundException {
            try (var in = getParent().getResourceAsStream(name + ".class")) {
                return in.readAllBytes();
            } catch (IOException e) {
                throw new ClassNotFoundException(name, e);
            }
        }
    }

    /** By name; none if it does not compile. */
    private static Map<String, byte[]> compile(String source) throws IOException {
        JavaCompiler compiler = ToolProvider.getSystemJavaCompiler();
        Map<String, ByteArrayOutputStream> made = new HashMap<>();
        JavaFileObject text = new SimpleJavaFileObject(URI.create("string:///TailTrimmer.java"), JavaFileObject.Kind.SOURCE) {
            @Override
            public CharSequence getCharContent(boolean ignored) {
                return source;
            }
        };
        try (JavaFileManager files = new Catcher(compiler, made)) {
            boolean good = compiler.getTask(null, files, d -> { }, List.of("-proc:none"), null, List.of(text)).call();
            Map<String, byte[]> classes = new HashMap<>();
            if (good) {
                made.forEach((name, bytes) -> classes.put(name, bytes.toByteArray()));
            }
            return classes;
        }
    }

    private static final class Catcher extends ForwardingJavaFileManager<JavaFileManager> {
        private final Map<String, ByteArrayOutputStream> made;

        Catcher(JavaCompiler compiler, Map<String, ByteArrayOutputStream> made) {
            super(compiler.getStandardFileManager(null, null, null));
            this.made = made;
        }

        @Override
        public JavaFileObject getJavaFileForOutput(Location at, String name, JavaFileObject.Kind kind, FileObject near) {
            return new SimpleJavaFileObject(URI.create("mem:///" + name + ".class"), kind) {
                @Override
                public OutputStream openOutputStream() {
                    ByteArrayOutputStream bytes = new ByteArrayOutputStream();
                    made.put(name, bytes);
                    return bytes;
                }
            };
        }
    }
}
