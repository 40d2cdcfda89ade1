import java.io.File;
import java.io.IOException;
import java.lang.reflect.Method;
import java.lang.reflect.Modifier;
import java.nio.file.Files;
import java.nio.file.Path;
import java.util.ArrayList;
import java.util.List;
import java.util.Set;
import java.util.TreeSet;
import java.util.regex.Matcher;
import java.util.regex.Pattern;

/** Runs the example of README.md, line by line as it stands there, and holds the answers against what it tells. */
public final class ReadmeTest {
    private static final String MAKES = "TailTrimmer x = new TailTrimmer();";
    private static final Pattern LAYS = Pattern.compile("lay\\(x, \"([^\"]*)\"\\); +// (-?\\d+)(?:: (.*))?");
    private static final Pattern CALLS = Pattern.compile("x\\.(\\w+)\\(([^()]*)\\); +// (-?\\d+)(?:: (.*))?");
    private static final Path README = Path.of("README.md");
    private static final Path TESTS = Path.of("src/test/java");

    private final Check check;
    private final Set<String> called = new TreeSet<>();
    private TailTrimmer x = null;

    private ReadmeTest(Check check) {
        this.check = check;
    }

    public static void main(String[] args) throws IOException, ReflectiveOperationException {
        Check check = new Check();
        List<String> lines = Files.readAllLines(README);
        ReadmeTest test = new ReadmeTest(check);
        test.runAll(lines);
        test.asksEveryMethod();
        namesEveryTest(check, lines);
        check.finish();
    }

    private void runAll(List<String> lines) throws IOException, ReflectiveOperationException {
        List<String> helper = new ArrayList<>();
        for (int i = 0; i < lines.size(); i++) {
            if (!lines.get(i).equals("```java")) {
                continue;
            }
            boolean helps = lines.get(i + 1).startsWith("static ");
            for (i++; !lines.get(i).equals("```"); i++) {
                if (helps) {
                    helper.add("    " + lines.get(i));
                } else {
                    runLine(lines.get(i), "README.md line " + (i + 1));
                }
            }
        }
        String own = Files.readString(TESTS.resolve("ReadmeTest.java"));
        check.due("lay of README.md is the one that runs here",
            !helper.isEmpty() && own.contains(String.join("\n", helper) + "\n") ? 1 : 0, 1);
    }

    private void runLine(String line, String where) throws ReflectiveOperationException {
        if (line.equals(MAKES)) {
            x = new TailTrimmer();
            return;
        }
        if (x == null) {
            check.fail(where + " has no object: " + line);
            return;
        }
        Matcher laying = LAYS.matcher(line);
        Matcher calling = CALLS.matcher(line);
        if (laying.matches()) {
            check.due(where + ": " + line, lay(x, laying.group(1)), Integer.parseInt(laying.group(2)));
        } else if (calling.matches()) {
            int answer = call(calling.group(1), calling.group(2));
            check.due(where + ": " + line, answer, Integer.parseInt(calling.group(3)));
            called.add(calling.group(1));
            lookAtWords(where, calling);
        } else {
            check.fail(where + " is no call with an answer: " + line);
        }
    }

    /** Behind a write the words are what was written; behind a feed, of a text that was empty, they quote it. */
    private void lookAtWords(String where, Matcher calling) {
        String words = calling.group(4) == null ? "" : calling.group(4);
        int length = Integer.parseInt(calling.group(3));
        if (calling.group(1).equals("write") && length > 0) {
            check.due(where + " writes", Check.latest(x, length), words);
        } else if (calling.group(1).equals("feed") && length > 0) {
            long v = Long.decode(calling.group(2).split(",")[0].replace("L", ""));
            StringBuilder bytes = new StringBuilder();
            for (int i = length - 1; i >= 0; i--) {
                bytes.append((char) (v >> 8 * i & 255));
            }
            check.due(where + " feeds", "the text is \"" + bytes + "\"", words);
        }
    }

    private int call(String name, String given) throws ReflectiveOperationException {
        String[] words = given.isEmpty() ? new String[0] : given.split(", ");
        Method method = methodNamed(name);
        if (method == null || method.getParameterCount() != words.length) {
            check.fail("there is no method " + name + " with " + words.length + " arguments");
            return 0;
        }
        Object[] arguments = new Object[words.length];
        for (int i = 0; i < words.length; i++) {
            long v = Long.decode(words[i].replace("L", ""));
            boolean wide = method.getParameterTypes()[i] == long.class;
            arguments[i] = wide ? (Object) v : (Object) Math.toIntExact(v);
        }
        return (Integer) method.invoke(x, arguments);
    }

    private static Method methodNamed(String name) {
        for (Method method : TailTrimmer.class.getDeclaredMethods()) {
            if (method.getName().equals(name) && Modifier.isPublic(method.getModifiers())) {
                return method;
            }
        }
        return null;
    }

    private void asksEveryMethod() {
        for (Method method : TailTrimmer.class.getDeclaredMethods()) {
            if (Modifier.isPublic(method.getModifiers())) {
                check.due("the example asks " + method.getName(), called.contains(method.getName()) ? 1 : 0, 1);
            }
        }
    }

    private static void namesEveryTest(Check check, List<String> lines) {
        Set<String> named = new TreeSet<>();
        for (String line : lines) {
            Matcher row = Pattern.compile("\\| (\\w+Test) \\| .*").matcher(line);
            if (row.matches()) {
                named.add(row.group(1));
            }
        }
        Set<String> there = new TreeSet<>();
        String[] files = TESTS.toFile().list((File folder, String name) -> name.endsWith("Test.java"));
        for (String name : files == null ? new String[0] : files) {
            there.add(name.replace(".java", ""));
        }
        check.due("the tests that README.md names", named.toString(), there.toString());
    }

    static int lay(TailTrimmer x, String text) {
        int answer = x.feed(0, 0);
        for (int from = 0; from < text.length() && answer >= 0; from += 8) {
            int n = Math.min(8, text.length() - from);
            long v = 0;
            for (int i = 0; i < n; i++) {
                v = v << 8 | text.charAt(from + i);
            }
            answer = x.feed(v, n);
        }
        return answer;
    }
}
