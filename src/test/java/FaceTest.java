import java.io.IOException;
import java.lang.reflect.Constructor;
import java.lang.reflect.Field;
import java.lang.reflect.Method;
import java.lang.reflect.Modifier;
import java.nio.file.Files;
import java.nio.file.Path;
import java.util.ArrayList;
import java.util.Arrays;
import java.util.List;
import java.util.TreeSet;
import java.util.regex.Pattern;

/** The public face of the document, and what LANGUAGE.md leaves of Java as far as a plain look tells. */
public final class FaceTest {
    /** The constructor and the methods as the document writes them. */
    private static final String[] FACE = {
        "public BerthPlan(int places)",
        "public int ship(int length, int need, int time, int arrives, int weight)"
            + " throws IllegalArgumentException, IllegalStateException",
        "public boolean depth(int from, int to, int depth)",
        "public boolean gear(int place, int kind, boolean is)",
        "public boolean wants(int ship, int kind, boolean is)",
        "public boolean tide(int from, int to)",
        "public boolean fix(int ship, int place, int hour)",
        "public boolean free(int ship)",
        "public int solve()",
        "public int at(int ship, int what) throws IndexOutOfBoundsException, IllegalStateException",
        "public int lateness() throws IllegalStateException",
        "public int bound()",
        "public int why(int ship) throws IndexOutOfBoundsException",
        "public int change(int ship, int arrives)"
            + " throws IndexOutOfBoundsException, IllegalArgumentException, IllegalStateException",
        "public int lies(int place, int hour) throws IllegalStateException",
        "public long share(int length, int parts, int depth) throws IllegalArgumentException, ArithmeticException",
        "public int count(int what)",
    };

    /** Words that the program has no need of, most of them outside the language. */
    private static final String[] WORDS = {"\\bimport\\b", "\\bpackage\\b", "\\bcatch\\b", "\\bfinally\\b",
        "\\bsynchronized\\b", "\\bassert\\b", "->", "::", "Exact\\b", "\\bstatic\\s*\\{", "\\bSystem\\.(?!arraycopy)"};

    private static final Check CHECK = new Check("Face");

    public static void main(String[] args) throws IOException, IllegalAccessException {
        face();
        constants();
        parameters();
        names();
        staticFields();
        source();
        CHECK.end();
    }

    private static void face() {
        List<String> due = new ArrayList<>();
        for (String written : FACE) {
            due.add(written.replaceAll("(int|boolean) \\w+(?=[,)])", "$1"));
        }
        List<String> seen = new ArrayList<>();
        for (Constructor<?> c : BerthPlan.class.getDeclaredConstructors()) {
            addOpen(seen, c.getModifiers(), c.toGenericString());
        }
        for (Method m : BerthPlan.class.getDeclaredMethods()) {
            addOpen(seen, m.getModifiers(), m.toGenericString());
        }
        CHECK.dueText("the face", new TreeSet<>(seen).toString(), new TreeSet<>(due).toString());
        CHECK.due("public and final", BerthPlan.class.getModifiers(), Modifier.PUBLIC | Modifier.FINAL);
        CHECK.due("of no other class than Object", BerthPlan.class.getSuperclass() == Object.class, true);
        CHECK.due("interfaces", BerthPlan.class.getInterfaces().length, 0);
        for (Class<?> inside : BerthPlan.class.getDeclaredClasses()) {
            int open = Modifier.PUBLIC | Modifier.PROTECTED;
            CHECK.due(inside + " is not open", (inside.getModifiers() & open) == 0, true);
            CHECK.due(inside + " is static", Modifier.isStatic(inside.getModifiers()), true);
        }
    }

    private static void addOpen(List<String> seen, int modifiers, String text) {
        if (!Modifier.isPrivate(modifiers)) {
            seen.add(text.replace("java.lang.", "").replace(" BerthPlan.", " ").replace(",", ", "));
        }
    }

    private static void constants() throws IllegalAccessException {
        List<String> seen = new ArrayList<>();
        for (Field f : BerthPlan.class.getDeclaredFields()) {
            boolean isOpen = !Modifier.isPrivate(f.getModifiers());
            String value = isOpen && Modifier.isStatic(f.getModifiers()) ? " = " + f.get(null) : "";
            addOpen(seen, f.getModifiers(), f.toGenericString() + value);
        }
        CHECK.dueText("the constants", seen.toString(), "[public static final int NONE = -1]");
    }

    /** The names of the parameters, which the class file does not keep. */
    private static void parameters() throws IOException {
        String squeezed = bareSource().replaceAll("\\s+", " ");
        for (String written : FACE) {
            CHECK.due("the program has " + written, squeezed.contains(" " + written + " {"), true);
        }
    }

    private static void names() {
        TreeSet<String> open = new TreeSet<>();
        for (Method m : BerthPlan.class.getMethods()) {
            open.add(m.getName());
        }
        List<Method> others = new ArrayList<>(Arrays.asList(BerthPlan.class.getDeclaredMethods()));
        others.removeIf(m -> Modifier.isPublic(m.getModifiers()));
        for (Class<?> inside : BerthPlan.class.getDeclaredClasses()) {
            others.addAll(Arrays.asList(inside.getDeclaredMethods()));
        }
        for (Method m : others) {
            CHECK.due(m + " bears a name of the face", open.contains(m.getName()), false);
            CHECK.due(m + " has at most seven parameters", m.getParameterCount() <= 7, true);
        }
    }

    private static void staticFields() {
        List<Field> fields = new ArrayList<>(Arrays.asList(BerthPlan.class.getDeclaredFields()));
        for (Class<?> inside : BerthPlan.class.getDeclaredClasses()) {
            fields.addAll(Arrays.asList(inside.getDeclaredFields()));
        }
        for (Field f : fields) {
            if (Modifier.isStatic(f.getModifiers())) {
                CHECK.due(f + " is final", Modifier.isFinal(f.getModifiers()), true);
            }
        }
    }

    private static void source() throws IOException {
        String bare = bareSource();
        for (String word : WORDS) {
            CHECK.due("the program has " + word, Pattern.compile(word).matcher(bare).find(), false);
        }
    }

    /** The program without its comments and texts. */
    private static String bareSource() throws IOException {
        return Files.readString(Path.of("src/main/java/BerthPlan.java"))
                .replaceAll("(?s)/\\*.*?\\*/", " ")
                .replaceAll("//[^\n]*", " ")
                .replaceAll("\"[^\"\n]*\"", "\"\"");
    }
}
