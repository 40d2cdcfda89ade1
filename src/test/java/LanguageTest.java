import java.io.IOException;
import java.lang.reflect.Constructor;
import java.lang.reflect.Field;
import java.lang.reflect.Method;
import java.lang.reflect.Modifier;
import java.nio.file.Files;
import java.nio.file.Path;
import java.util.ArrayList;
import java.util.HashSet;
import java.util.List;
import java.util.Set;
import java.util.TreeSet;
import java.util.regex.Matcher;
import java.util.regex.Pattern;

/** The rules of LANGUAGE.md that can be seen from the file and from the class. */
public final class LanguageTest {
    private static final Check CHECK = new Check();

    public static void main(String[] args) throws IOException {
        String text = Files.readString(Path.of("src/main/java/TailTrimmer.java"));
        words(withoutComments(text));
        face();
        insides();
        CHECK.finish();
    }

    private static String withoutComments(String text) {
        return text.replaceAll("(?s)/\\*.*?\\*/", "").replaceAll("//[^\n]*", "").replaceAll("\"[^\"\n]*\"", "\"\"");
    }

    private static void words(String text) {
        String[] none = {"throw", "throws", "try", "catch", "finally", "synchronized", "assert", "import", "package", "native",
            "volatile", "transient", "Object", "Thread", "Random", "Exception", "hashCode", "toString", "Integer", "Long"};
        for (String word : none) {
            CHECK.due("the word " + word, Pattern.compile("\\b" + word + "\\b").matcher(text).find() ? 1 : 0, 0);
        }
        for (String sign : new String[] {"->", "::", "@", "Exact", "while (true)", "for (;;)"}) {
            CHECK.due("the sign " + sign, text.contains(sign) ? 1 : 0, 0);
        }
        Set<String> used = new TreeSet<>();
        Matcher m = Pattern.compile("\\b(System|Math|Arrays|Character)\\.(\\w+)").matcher(text);
        while (m.find()) {
            used.add(m.group());
        }
        used.removeAll(Set.of("System.arraycopy", "Math.max", "Math.min", "Math.abs"));
        CHECK.due("of the library", used.toString(), "[]");
        for (String line : text.split("\n")) {
            boolean field = line.matches(".*\\bstatic\\b[^(]*(=|;).*") && !line.contains("(");
            CHECK.due("static fields are final: " + line.trim(), field && !line.contains("final") ? 1 : 0, 0);
        }
        longMethods(text);
    }

    private static void longMethods(String text) {
        int length = 0;
        String head = "";
        for (String line : text.split("\n")) {
            if (line.matches("( {4}| {8})\\S.*\\) \\{")) {
                head = line.trim();
                length = 0;
            }
            length++;
            if (line.matches("( {4}| {8})\\}")) {
                CHECK.due("lines of " + head, length > 60 ? length : 0, 0);
            }
        }
    }

    private static void face() {
        Class<?> c = TailTrimmer.class;
        CHECK.due("public final", c.getModifiers(), Modifier.PUBLIC | Modifier.FINAL);
        Set<String> seen = new TreeSet<>();
        Set<String> open = new HashSet<>();
        for (Method m : c.getDeclaredMethods()) {
            if (Modifier.isPublic(m.getModifiers())) {
                open.add(m.getName());
                seen.add(m.toString().replace("TailTrimmer.", ""));
            }
        }
        Set<String> want = new TreeSet<>(List.of("public int feed(long,int)", "public int read()", "public int place()",
            "public int budget(int)", "public int trim(int)", "public int function(int,int,int)", "public int calls(int,int,int)",
            "public int order(int)", "public int write(int,int)", "public int octet(int)", "public int code(int,int,int,int)",
            "public int argument(int,int)", "public int run(int,int,int,int)", "public int told(int)", "public int putAt(int)"));
        CHECK.due("the public methods", seen.toString(), want.toString());
        for (Method m : c.getDeclaredMethods()) {
            if (!open.contains(m.getName()) || !Modifier.isPublic(m.getModifiers())) {
                CHECK.due(m + " is private", Modifier.isPrivate(m.getModifiers()) && !open.contains(m.getName()) ? 1 : 0, 1);
            }
        }
        for (Class<?> inside : c.getDeclaredClasses()) {
            for (Method m : inside.getDeclaredMethods()) {
                CHECK.due(m + " has a name of its own", open.contains(m.getName()) ? 1 : 0, 0);
            }
        }
        for (Field f : c.getDeclaredFields()) {
            CHECK.due(f + " is private", Modifier.isPrivate(f.getModifiers()) ? 1 : 0, 1);
        }
        CHECK.due("constructors", c.getDeclaredConstructors().length, 1);
        CHECK.due("the constructor is public", c.getDeclaredConstructors()[0].getModifiers(), Modifier.PUBLIC);
    }

    private static void insides() {
        List<Class<?>> all = new ArrayList<>(List.of(TailTrimmer.class.getDeclaredClasses()));
        CHECK.due("classes", all.size() + 1 > 12 ? all.size() + 1 : 0, 0);
        for (Class<?> c : all) {
            CHECK.due(c + " is static", Modifier.isStatic(c.getModifiers()) ? 1 : 0, 1);
            CHECK.due(c + " is not public", Modifier.isPublic(c.getModifiers()) ? 1 : 0, 0);
            CHECK.due(c + " has no classes", c.getDeclaredClasses().length, 0);
        }
        all.add(TailTrimmer.class);
        for (Class<?> c : all) {
            int fields = 0;
            for (Field f : c.getDeclaredFields()) {
                boolean constant = Modifier.isStatic(f.getModifiers());
                fields += constant ? 0 : 1;
                CHECK.due(f + ": static is final", constant && !Modifier.isFinal(f.getModifiers()) ? 1 : 0, 0);
            }
            CHECK.due("fields of " + c, fields > 20 ? fields : 0, 0);
            for (Method m : c.getDeclaredMethods()) {
                CHECK.due("parameters of " + m, m.getParameterCount() > 7 ? 1 : 0, 0);
            }
            for (Constructor<?> k : c.getDeclaredConstructors()) {
                CHECK.due("parameters of " + k, k.getParameterCount() > 7 ? 1 : 0, 0);
            }
        }
    }
}
