import java.lang.reflect.Constructor;
import java.lang.reflect.Field;
import java.lang.reflect.Method;
import java.lang.reflect.Modifier;
import java.nio.charset.StandardCharsets;
import java.nio.file.Files;
import java.nio.file.Path;
import java.util.Arrays;
import java.util.HashSet;
import java.util.List;
import java.util.Set;
import java.util.TreeSet;

/** The public face is the document's, and the file keeps to what can be seen of LANGUAGE.md. */
public final class FaceTest {
    private static final List<String> METHODS = List.of(
        "int feed(int,int,int,int,int)", "int drawer(int) I", "int fault()", "int count(int) N", "int zip(int,int) N",
        "int place(int,int,int) N", "int days(int)", "int slide(int,int) N", "int pinch(int,int,int) N",
        "boolean set(int,int,int,int) N", "boolean swap(int,int) N", "int undo()", "int then(int,int,int) NI",
        "int when(int,int) N", "int bursts(int,int) N", "int later(int,int) NI", "int daily(int,int) NI", "int lasts(int) N",
        "int tear(int,int,int) NI", "int offset(int,int,int) N", "int mesh(int,int,int) N", "int cut(int,int) N",
        "int mates(int) N", "int toPinch(int,int) NI", "int toSlide(int,int,int) NI", "int toSet(int,int) NI",
        "int note(int,int,int,boolean) N", "int forced(int) N", "int look(int) N", "void forget()",
        "int wind(int,int,int,int) NI", "int game(int,int,int) NI", "int years(int,int,int) NI", "int calm(int) I",
        "int worst(int,int) NI", "int most(int,int) NI", "int gap(int) N", "int unlike(int,int) N", "void image()",
        "boolean restore()");
    private static int wrong = 0;

    private static void check(boolean holds, String what) {
        if (!holds) {
            wrong++;
            System.out.println("face: " + what);
        }
    }

    public static void main(String[] args) throws Exception {
        methods();
        rest();
        source();
        System.out.println("face: " + METHODS.size() + " methods, " + wrong + " wrong");
        if (wrong > 0) {
            System.exit(1);
        }
    }

    private static String written(Method m) {
        StringBuilder s = new StringBuilder(m.getReturnType().toString()).append(' ').append(m.getName()).append('(');
        s.append(String.join(",", Arrays.stream(m.getParameterTypes()).map(Class::toString).toList())).append(')');
        s.append(m.getExceptionTypes().length > 0 ? " " : "");
        for (Class<?> e : m.getExceptionTypes()) {
            s.append(e.getSimpleName().charAt(0));
        }
        return s.toString();
    }

    private static void methods() {
        Set<String> found = new TreeSet<>();
        Set<String> names = new HashSet<>();
        for (Method m : SlideZips.class.getDeclaredMethods()) {
            if (Modifier.isPublic(m.getModifiers())) {
                found.add(written(m));
                names.add(m.getName());
            } else {
                check(Modifier.isPrivate(m.getModifiers()) || m.isSynthetic(), m + " is not private");
            }
        }
        check(found.equals(new TreeSet<>(METHODS)), "methods are " + found);
        for (Class<?> c : SlideZips.class.getDeclaredClasses()) {
            check(Modifier.isStatic(c.getModifiers()), c + " is not static");
            for (Method m : c.getDeclaredMethods()) {
                check(!names.contains(m.getName()), m + " bears a name of the face");
                check(m.getParameterCount() <= 7, m + " has too many parameters");
            }
        }
        for (Method m : SlideZips.class.getDeclaredMethods()) {
            check(Modifier.isPublic(m.getModifiers()) || !names.contains(m.getName()), m + " bears a name of the face");
        }
    }

    private static void rest() throws Exception {
        check(Modifier.isFinal(SlideZips.class.getModifiers()), "not final");
        Constructor<?>[] all = SlideZips.class.getDeclaredConstructors();
        check(all.length == 1 && Modifier.isPublic(all[0].getModifiers()) && all[0].getParameterCount() == 0, "constructors");
        for (Field f : SlideZips.class.getDeclaredFields()) {
            check(Modifier.isPrivate(f.getModifiers()) || f.getName().equals("NONE"), f + " is not private");
            check(!Modifier.isStatic(f.getModifiers()) || Modifier.isFinal(f.getModifiers()), f + " is static, not final");
        }
        check(SlideZips.class.getField("NONE").getInt(null) == -1, "NONE");
        check(SlideZips.class.getDeclaredClasses().length <= 12, "too many classes");
    }

    private static void source() throws Exception {
        Path file = Path.of(System.getProperty("project.root", "."), "src/main/java/SlideZips.java");
        String text = Files.readString(file, StandardCharsets.ISO_8859_1);
        for (String no : List.of("->", "::", "catch", "try {", "finally", "synchronized", "assert ", "instanceof", "package ",
                "Exact(", "getMessage", "System.out", "Random", "static {", "Thread", "native ", "Object")) {
            check(!text.contains(no), "the file has '" + no + "'");
        }
        for (String line : text.split("\n")) {
            check(!line.startsWith("import ") || line.equals("import java.util.NoSuchElementException;"), line);
            check(!line.contains("throw new ")
                || line.matches(" *(default: )?throw new (NoSuchElement|IllegalArgument)Exception\\(\"[a-z ]+\"\\);"), line);
        }
        shortMethods(text);
    }

    /** A method's lines stand between its head and the brace at the same depth. */
    private static void shortMethods(String text) {
        String[] lines = text.split("\n");
        for (int i = 0; i < lines.length; i++) {
            String head = lines[i];
            if (!head.matches("( {4}| {8})[a-zA-Z].*\\) *(throws .*)?\\{")) {
                continue;
            }
            String end = head.replaceAll("\\S.*", "}");
            int j = i;
            while (j < lines.length && !lines[j].equals(end)) {
                j++;
            }
            check(j - i <= 60, head + " has " + (j - i) + " lines");
        }
    }
}
