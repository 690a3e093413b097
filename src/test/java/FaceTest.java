import java.io.IOException;
import java.lang.reflect.Constructor;
import java.lang.reflect.Field;
import java.lang.reflect.Method;
import java.lang.reflect.Modifier;
import java.nio.file.Files;
import java.nio.file.Path;
import java.util.Set;
import java.util.TreeSet;
import java.util.regex.Matcher;
import java.util.regex.Pattern;

/** The public face of the document, and those rules of LANGUAGE.md that can be read off the source or the class. */
public final class FaceTest {
    private static final String[] FACE = {
        "int type(int int)", "int wipe(int)", "int undo(int)", "int fault(int)", "int house(int int)",
        "int guest(int int)", "int set(int int)", "int at(int)", "int gives(int int)", "int fed(int int)",
        "int all(int int)", "int price(int)", "int poor()", "int passed()", "int live(int int)", "int cook(int int)",
        "int fast(int int int)", "int soup(int int)", "int seen(int int)", "int forget()", "int read(int)",
        "int twice()", "int began(int)", "int ask()", "long road(int int int int)", "int season(int int int int)",
        "int sheet(int int int)", "int lose(int)", "int lay(int int int int)", "int get(int int int)",
        "int copy(int int int int int)", "int write(int int)", "int count(int)", "long digest()"};
    private static final String FORBIDDEN =
        "\\b(throw|throws|try|catch|synchronized|assert|import|package|native|volatile|transient|Exact|hashCode"
        + "|toString|MIN_VALUE|MAX_VALUE)\\b|->|::|@";
    private static int wrong = 0;

    private static void must(boolean holds, String told) {
        if (!holds) {
            wrong++;
            System.out.println(told);
        }
    }

    public static void main(String[] args) throws IOException {
        face();
        insides();
        source(Files.readString(Path.of("src/main/java/TurnFeast.java")));
        System.out.println(wrong == 0 ? "the face is as told" : wrong + " faults of the face");
        if (wrong != 0) {
            System.exit(1);
        }
    }

    private static void face() {
        Class<?> c = TurnFeast.class;
        must(Modifier.isPublic(c.getModifiers()) && Modifier.isFinal(c.getModifiers()), "not public and final");
        Set<String> due = new TreeSet<>(Set.of(FACE));
        Set<String> names = new TreeSet<>();
        for (Method m : c.getDeclaredMethods()) {
            StringBuilder told = new StringBuilder(m.getReturnType() + " " + m.getName() + "(");
            for (Class<?> p : m.getParameterTypes()) {
                told.append(told.charAt(told.length() - 1) == '(' ? "" : " ").append(p);
            }
            told.append(")");
            if (Modifier.isPrivate(m.getModifiers())) {
                continue;
            }
            must(due.remove(told.toString()), "not of the face: " + told);
            names.add(m.getName());
        }
        must(due.isEmpty(), "missing: " + due);
        for (Method m : c.getDeclaredMethods()) {
            must(!Modifier.isPrivate(m.getModifiers()) || !names.contains(m.getName()), "private, but of the face: " + m);
        }
        Constructor<?>[] made = c.getDeclaredConstructors();
        must(made.length == 1 && made[0].getParameterCount() == 0 && Modifier.isPublic(made[0].getModifiers()),
            "not the one constructor");
        Set<String> constants = new TreeSet<>(Set.of("NONE", "BAD", "NOT", "FULL"));
        for (Field f : c.getDeclaredFields()) {
            if (!Modifier.isPrivate(f.getModifiers())) {
                must(constants.remove(f.getName()) && Modifier.isPublic(f.getModifiers()), "not of the face: " + f);
            }
        }
        must(constants.isEmpty(), "missing: " + constants);
    }

    private static void insides() {
        Class<?>[] inside = TurnFeast.class.getDeclaredClasses();
        must(inside.length <= 12, "more than twelve classes");
        for (Class<?> c : inside) {
            must(Modifier.isStatic(c.getModifiers()), "not static: " + c);
            must(!Modifier.isPublic(c.getModifiers()) && !Modifier.isProtected(c.getModifiers()), "too open: " + c);
            fields(c);
        }
        fields(TurnFeast.class);
    }

    private static void fields(Class<?> c) {
        int own = 0;
        for (Field f : c.getDeclaredFields()) {
            if (Modifier.isStatic(f.getModifiers())) {
                must(Modifier.isFinal(f.getModifiers()), "static, but not final: " + f);
            } else {
                own++;
            }
        }
        must(own <= 20, "more than twenty fields: " + c);
        for (Method m : c.getDeclaredMethods()) {
            must(m.getParameterCount() <= 7, "more than seven parameters: " + m);
        }
    }

    private static void source(String text) {
        String code = text.replaceAll("(?s)/\\*.*?\\*/", "").replaceAll("//[^\n]*", "");
        Matcher found = Pattern.compile(FORBIDDEN).matcher(code);
        while (found.find()) {
            must(false, "not of the language: " + found.group());
        }
        must(text.chars().allMatch(b -> b == '\n' || b >= 32 && b < 127), "a sign beyond 32 to 126");
        int lines = 0;
        for (String line : text.split("\n")) {
            lines = line.matches("( {4}){1,2}}") ? 0 : lines + 1;
            must(lines <= 80, "a method too long, at: " + line);
        }
    }
}
