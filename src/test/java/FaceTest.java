import java.io.IOException;
import java.lang.reflect.Constructor;
import java.lang.reflect.Field;
import java.lang.reflect.Method;
import java.lang.reflect.Modifier;
import java.nio.file.Files;
import java.nio.file.Path;
import java.util.ArrayList;
import java.util.Arrays;
import java.util.List;
import java.util.TreeSet;

/** The public face is just that of the document, and the source keeps to what LANGUAGE.md lets be seen. */
public final class FaceTest {
    private static final String[] FACE = {
        "int diver(int,int)", "int judge(int,int)", "int year(int,int)", "int chair(int,int,int)",
        "int dive(int,int,int,int)", "int of(int,int)", "int seen(int,int,int)", "int would(int,int)",
        "int markAll(int)", "int marks(int,int)", "int mark(int,int)", "int rule(int)", "int counts(int)",
        "long total(int,int)", "int place(int,int)", "int won(int)", "int wonIf(int,int,int)",
        "int moved(int,int,int,int)", "int lean(int,int,int)", "int pairs()", "int pairOdds(int)",
        "int order(int)", "int orderOdds(int,int)", "int creep(int,int)", "int near(int)", "int nearest()",
        "int seeing(int,int,int)", "int worlds(int,int,int)", "int image()", "int restore()", "int count(int)",
        "int keep(int,int,int)", "int row(int,int,int)", "int put(int,int,int)", "long element(int,int)",
        "int copy(int,int,int,int,int)", "int weight(int)", "int toss(int)"
    };
    private static final String[] FORBIDDEN = {
        "import ", "package ", "->", "::", "finally", "synchronized", "assert ", "record ", "native ", "volatile ",
        "java.", "System.out", "System.err", "Random", "Thread", "currentTime", "nanoTime", "var ", "Exact(", "while (true)"
    };
    private static final String[] MACHINES_OWN = {
        "ArrayIndexOutOfBounds", "NullPointer", "ClassCast", "NegativeArraySize", "ArrayStore", "Throwable",
        "catch (RuntimeException", "catch (Exception", "catch (Error", "catch (IndexOutOfBounds", "catch (Arithmetic"
    };

    private static final String[] HEADS = {
        "divers, judges, halls, dives", "diver", "marks, rules", "would", "places", "total", "leans", "lean",
        "the image, what is told", "image", "shelves", "keep"
    };

    public static void main(String[] args) throws IOException {
        face();
        List<String> lines = Files.readAllLines(Path.of("src/main/java/DiveChairs.java"));
        source(lines);
        order(lines);
        Check.finish();
    }

    private static String told(Method method) {
        List<String> parameters = new ArrayList<>();
        for (Class<?> parameter : method.getParameterTypes()) {
            parameters.add(parameter.getName());
        }
        return method.getReturnType().getName() + " " + method.getName() + "(" + String.join(",", parameters) + ")";
    }

    private static void face() {
        Class<?> c = DiveChairs.class;
        Check.is("public and final", Modifier.PUBLIC | Modifier.FINAL, c.getModifiers());
        TreeSet<String> names = new TreeSet<>();
        TreeSet<String> found = new TreeSet<>();
        for (Method method : c.getDeclaredMethods()) {
            if (!Modifier.isPrivate(method.getModifiers())) {
                Check.is("modifiers of " + method, Modifier.PUBLIC, method.getModifiers());
                found.add(told(method));
                names.add(method.getName());
            }
        }
        Check.holds("methods " + found, found.equals(new TreeSet<>(Arrays.asList(FACE))));
        Constructor<?>[] made = c.getDeclaredConstructors();
        Check.is("constructors", 1, made.length);
        Check.is("constructor", Modifier.PUBLIC, made[0].getModifiers());
        for (Field field : c.getDeclaredFields()) {
            Check.holds("private " + field, Modifier.isPrivate(field.getModifiers()));
        }
        inside(c, names);
    }

    private static void inside(Class<?> c, TreeSet<String> names) {
        int classes = 1;
        for (Class<?> inner : c.getDeclaredClasses()) {
            classes++;
            Check.holds("private and static " + inner, (inner.getModifiers() & 10) == 10);
            for (Method method : inner.getDeclaredMethods()) {
                Check.holds("not named as a public one: " + method, !names.contains(method.getName()));
            }
            int fields = 0;
            for (Field field : inner.getDeclaredFields()) {
                fields += Modifier.isStatic(field.getModifiers()) ? 0 : 1;
                Check.holds("no static state: " + field, !Modifier.isStatic(field.getModifiers()) || Modifier.isFinal(field.getModifiers()));
            }
            Check.holds("fields of " + inner, fields <= 20);
        }
        Check.holds("some twelve classes", classes <= 12);
        for (Method method : c.getDeclaredMethods()) {
            boolean hidden = Modifier.isPrivate(method.getModifiers());
            Check.holds("not named as a public one: " + method, !hidden || !names.contains(method.getName()));
        }
    }

    /** The calls stand in the order of the document, with what the interface says ahead of some of them. */
    private static void order(List<String> lines) {
        List<String> due = new ArrayList<>();
        int head = 0;
        for (String call : FACE) {
            String name = call.substring(call.indexOf(' ') + 1, call.indexOf('('));
            if (head < HEADS.length && name.equals(HEADS[head + 1])) {
                due.add("---- " + HEADS[head]);
                head += 2;
            }
            due.add(name);
        }
        List<String> found = new ArrayList<>();
        for (String line : lines) {
            if (line.equals("    // ---- behind the face")) {
                break;
            }
            if (line.startsWith("    // ---- ")) {
                found.add(line.substring(7));
            } else if (line.matches(" {4}public (int|long) .*")) {
                found.add(line.substring(line.indexOf(' ', 11) + 1, line.indexOf('(')));
            }
        }
        Check.holds("order of the calls " + found, found.equals(due));
    }

    private static void source(List<String> lines) {
        int began = 0;
        for (int at = 0; at < lines.size(); at++) {
            String line = lines.get(at);
            for (String word : FORBIDDEN) {
                Check.holds("no " + word + " in line " + (at + 1), !line.contains(word));
            }
            for (String word : MACHINES_OWN) {
                Check.holds("no " + word + " in line " + (at + 1), !line.contains(word));
            }
            if (line.endsWith(") {") && line.matches(" {4}(?: {4})?[A-Za-z].*")) {
                began = at;
            }
            if (line.matches(" {4}(?: {4})?}")) {
                Check.holds("length of the method at line " + (began + 1), at - began < 60);
            }
            for (int i = 0; i < line.length(); i++) {
                Check.holds("sign in line " + (at + 1), line.charAt(i) < 127);
            }
        }
    }
}
