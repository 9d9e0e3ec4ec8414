import java.io.IOException;
import java.lang.reflect.Constructor;
import java.lang.reflect.Field;
import java.lang.reflect.Method;
import java.lang.reflect.Modifier;
import java.nio.file.Files;
import java.nio.file.Path;
import java.util.ArrayList;
import java.util.Arrays;
import java.util.List;
import java.util.TreeSet;
import java.util.regex.Pattern;

/** The public face of the document, and what LANGUAGE.md leaves of Java as far as a plain look tells. */
public final class FaceTest {
    private static final String[] FACE = {
        "public static final int BerthPlan.NONE",
        "public BerthPlan(int)",
        "public int BerthPlan.ship(int,int,int,int,int)"
            + " throws java.lang.IllegalArgumentException,java.lang.IllegalStateException",
        "public boolean BerthPlan.depth(int,int,int)",
        "public boolean BerthPlan.gear(int,int,boolean)",
        "public boolean BerthPlan.wants(int,int,boolean)",
        "public boolean BerthPlan.tide(int,int)",
        "public boolean BerthPlan.fix(int,int,int)",
        "public boolean BerthPlan.free(int)",
        "public int BerthPlan.solve()",
        "public int BerthPlan.at(int,int)"
            + " throws java.lang.IndexOutOfBoundsException,java.lang.IllegalStateException",
        "public int BerthPlan.lateness() throws java.lang.IllegalStateException",
        "public int BerthPlan.bound()",
        "public int BerthPlan.why(int) throws java.lang.IndexOutOfBoundsException",
        "public int BerthPlan.change(int,int) throws java.lang.IndexOutOfBoundsException,"
            + "java.lang.IllegalArgumentException,java.lang.IllegalStateException",
        "public int BerthPlan.lies(int,int) throws java.lang.IllegalStateException",
        "public long BerthPlan.share(int,int,int)"
            + " throws java.lang.IllegalArgumentException,java.lang.ArithmeticException",
        "public int BerthPlan.count(int)",
    };

    /** Words that the program has no need of, most of them outside the language. */
    private static final String[] WORDS = {"\\bimport\\b", "\\bpackage\\b", "\\bcatch\\b", "\\bfinally\\b",
        "\\bsynchronized\\b", "\\bassert\\b", "->", "::", "Exact\\b", "\\bstatic\\s*\\{", "\\bSystem\\.(?!arraycopy)"};

    private static final Check CHECK = new Check("Face");

    public static void main(String[] args) throws IOException {
        face();
        names();
        staticFields();
        source();
        CHECK.end();
    }

    private static void face() {
        List<String> seen = new ArrayList<>();
        for (Field f : BerthPlan.class.getDeclaredFields()) {
            addOpen(seen, f.getModifiers(), f.toGenericString());
        }
        for (Constructor<?> c : BerthPlan.class.getDeclaredConstructors()) {
            addOpen(seen, c.getModifiers(), c.toGenericString());
        }
        for (Method m : BerthPlan.class.getDeclaredMethods()) {
            addOpen(seen, m.getModifiers(), m.toGenericString());
        }
        CHECK.dueText("the face", new TreeSet<>(seen).toString(), new TreeSet<>(Arrays.asList(FACE)).toString());
        CHECK.due("public and final", BerthPlan.class.getModifiers(), Modifier.PUBLIC | Modifier.FINAL);
        for (Class<?> inside : BerthPlan.class.getDeclaredClasses()) {
            int open = Modifier.PUBLIC | Modifier.PROTECTED;
            CHECK.due(inside + " is not open", (inside.getModifiers() & open) == 0, true);
            CHECK.due(inside + " is static", Modifier.isStatic(inside.getModifiers()), true);
        }
    }

    private static void addOpen(List<String> seen, int modifiers, String text) {
        if (!Modifier.isPrivate(modifiers)) {
            seen.add(text);
        }
    }

    private static void names() {
        TreeSet<String> open = new TreeSet<>();
        for (Method m : BerthPlan.class.getMethods()) {
            open.add(m.getName());
        }
        List<Method> others = new ArrayList<>(Arrays.asList(BerthPlan.class.getDeclaredMethods()));
        others.removeIf(m -> Modifier.isPublic(m.getModifiers()));
        for (Class<?> inside : BerthPlan.class.getDeclaredClasses()) {
            others.addAll(Arrays.asList(inside.getDeclaredMethods()));
        }
        for (Method m : others) {
            CHECK.due(m + " bears a name of the face", open.contains(m.getName()), false);
            CHECK.due(m + " has at most seven parameters", m.getParameterCount() <= 7, true);
        }
    }

    private static void staticFields() {
        List<Field> fields = new ArrayList<>(Arrays.asList(BerthPlan.class.getDeclaredFields()));
        for (Class<?> inside : BerthPlan.class.getDeclaredClasses()) {
            fields.addAll(Arrays.asList(inside.getDeclaredFields()));
        }
        for (Field f : fields) {
            if (Modifier.isStatic(f.getModifiers())) {
                CHECK.due(f + " is final", Modifier.isFinal(f.getModifiers()), true);
            }
        }
    }

    private static void source() throws IOException {
        String code = Files.readString(Path.of("src/main/java/BerthPlan.java"));
        String bare = code.replaceAll("(?s)/\\*.*?\\*/", " ")
                .replaceAll("//[^\n]*", " ")
                .replaceAll("\"[^\"\n]*\"", "\"\"");
        for (String word : WORDS) {
            CHECK.due("the program has " + word, Pattern.compile(word).matcher(bare).find(), false);
        }
    }
}
