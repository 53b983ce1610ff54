import java.io.IOException;
import java.lang.reflect.Constructor;
import java.lang.reflect.Field;
import java.lang.reflect.Method;
import java.lang.reflect.Modifier;
import java.nio.file.Files;
import java.nio.file.Path;
import java.util.List;
import java.util.Set;
import java.util.TreeSet;
import java.util.regex.Matcher;
import java.util.regex.Pattern;

/** The class has the document's face and no more, and keeps to the rules that can be seen in its text. */
public final class FaceTest {
    private static final Set<String> FACE = Set.of(
        "int make(int, int)", "int set(int, int, int)", "int link(int, int, int, boolean)",
        "int refers(int, int)", "int number(int, int)", "int load(int, int, int)",
        "int copy(int, int)", "int drop(int)", "int watch(int, boolean)", "int next(int)",
        "int mark()", "int sweep()", "int object(int, int)", "int at(int)", "int block(int, int)",
        "int count(int)", "int same(int, int)", "long sum(int)",
        "new(int)", "int NONE", "int BAD", "int REFUSED", "int FULL");

    private static final List<String> RULED_OUT = List.of(
        "\\bthrow\\b", "\\bthrows\\b", "\\btry\\b", "\\bcatch\\b", "\\bsynchronized\\b", "\\bassert\\b",
        "\\bimport\\b", "\\bpackage\\b", "->", "::", "\\bSystem\\.(?!arraycopy)", "\\bThread\\b",
        "\\w+Exact\\b", "\\btoString\\b", "\\bhashCode\\b", "\\bRandom\\b", "static\\s*\\{");

    private static int wrong = 0;

    private static void fault(String text) {
        wrong++;
        System.out.println(text);
    }

    private static String parameters(Class<?>[] types) {
        StringBuilder text = new StringBuilder("(");
        for (Class<?> type : types) {
            text.append(text.length() == 1 ? "" : ", ").append(type.getSimpleName());
        }
        return text.append(")").toString();
    }

    private static void face() {
        Set<String> found = new TreeSet<>();
        Set<String> names = new TreeSet<>();
        for (Method m : LazyBlocks.class.getDeclaredMethods()) {
            if (Modifier.isPublic(m.getModifiers())) {
                names.add(m.getName());
                found.add(m.getReturnType() + " " + m.getName() + parameters(m.getParameterTypes()));
            } else if (!Modifier.isPrivate(m.getModifiers())) {
                fault("neither public nor private: " + m);
            }
        }
        for (Constructor<?> c : LazyBlocks.class.getDeclaredConstructors()) {
            found.add("new" + parameters(c.getParameterTypes()));
        }
        for (Field f : LazyBlocks.class.getDeclaredFields()) {
            if (!Modifier.isPrivate(f.getModifiers())) {
                found.add(f.getType() + " " + f.getName());
            }
            if (Modifier.isStatic(f.getModifiers()) && !Modifier.isFinal(f.getModifiers())) {
                fault("static and not final: " + f);
            }
        }
        if (!found.equals(new TreeSet<>(FACE))) {
            fault("the face is " + found);
        }
        if (!Modifier.isFinal(LazyBlocks.class.getModifiers())) {
            fault("the class is not final");
        }
        hidden(LazyBlocks.class, names);
        for (Class<?> inside : LazyBlocks.class.getDeclaredClasses()) {
            if (!Modifier.isStatic(inside.getModifiers()) || Modifier.isPublic(inside.getModifiers())) {
                fault("not static, or public: " + inside);
            }
            hidden(inside, names);
        }
    }

    private static void hidden(Class<?> in, Set<String> names) {
        for (Method m : in.getDeclaredMethods()) {
            if (!Modifier.isPublic(m.getModifiers()) && names.contains(m.getName())) {
                fault("bears the name of a public method: " + m);
            }
        }
        int fields = 0;
        for (Field f : in.getDeclaredFields()) {
            fields += Modifier.isStatic(f.getModifiers()) ? 0 : 1;
        }
        if (fields > 20) {
            fault("too many fields: " + in);
        }
    }

    private static void text() throws IOException {
        String source = Files.readString(Path.of("src/main/java/LazyBlocks.java"));
        String code = source.replaceAll("(?s)/\\*.*?\\*/", " ").replaceAll("//[^\\n]*", " ");
        for (String pattern : RULED_OUT) {
            Matcher m = Pattern.compile(pattern).matcher(code);
            if (m.find()) {
                fault("ruled out: " + m.group());
            }
        }
    }

    public static void main(String[] args) throws IOException {
        face();
        text();
        System.out.println(wrong == 0 ? "the face is as due" : wrong + " faults");
        if (wrong != 0) {
            System.exit(1);
        }
    }
}
