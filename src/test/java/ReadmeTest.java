import java.io.IOException;
import java.io.PrintWriter;
import java.lang.reflect.Method;
import java.lang.reflect.Modifier;
import java.net.URL;
import java.net.URLClassLoader;
import java.nio.file.Files;
import java.nio.file.Path;
import java.util.ArrayList;
import java.util.List;
import java.util.Set;
import java.util.TreeSet;
import java.util.function.BiConsumer;
import java.util.regex.Matcher;
import java.util.regex.Pattern;
import java.util.spi.ToolProvider;

/**
 * What README.md shows of the class's use: its java pieces are compiled as they stand, one behind the other, and each
 * call is asked for the answer that stands behind it.
 */
public final class ReadmeTest {
    /** As in: feast.at(0);  // 3: the house at place 0. */
    private static final Pattern CALL = Pattern.compile("(feast\\.(\\w+)\\(.*\\)); +// (-?\\d+): \\S.*");
    private static final Pattern MAKING = Pattern.compile("TurnFeast feast = new TurnFeast\\(\\);|for \\(.*\\) feast\\.type\\(.*\\);");

    private static final Set<String> shown = new TreeSet<>();
    private static final List<String> told = new ArrayList<>();
    private static final List<Long> due = new ArrayList<>();
    private static int wrong = 0;

    private static void must(boolean holds, String words) {
        if (!holds) {
            wrong++;
            System.out.println(words);
        }
    }

    public static void main(String[] args) throws Exception {
        String body = piecesOf(Files.readAllLines(Path.of("README.md")));
        must(told.size() > 0, "README.md shows no call");
        for (Method m : TurnFeast.class.getDeclaredMethods()) {
            must(!Modifier.isPublic(m.getModifiers()) || shown.contains(m.getName()), "README.md never shows " + m.getName());
        }
        askAll(body);
        System.out.println(told.size() + " calls are shown, " + wrong + " faults");
        if (wrong != 0) {
            System.exit(1);
        }
    }

    /** The lines of all java pieces; each call's answer is handed on with the call's number. */
    private static String piecesOf(List<String> lines) {
        StringBuilder body = new StringBuilder();
        boolean inside = false;
        for (int i = 0; i < lines.size(); i++) {
            String line = lines.get(i);
            if (line.startsWith("```")) {
                inside = line.equals("```java");
            } else if (inside) {
                body.append(turned(line, "README.md, line " + (i + 1) + ": ")).append('\n');
            }
        }
        return body.toString();
    }

    private static String turned(String line, String where) {
        Matcher call = CALL.matcher(line);
        if (!call.matches()) {
            must(MAKING.matcher(line).matches(), where + "shows no call with its answer: " + line);
            return line;
        }
        shown.add(call.group(2));
        told.add(where + call.group(1));
        due.add(Long.parseLong(call.group(3)));
        return "answered.accept(" + (told.size() - 1) + ", (long) " + call.group(1) + ");";
    }

    private static void askAll(String body) throws Exception {
        Path place = Files.createTempDirectory("readme");
        try {
            Path source = place.resolve("Shown.java");
            Files.writeString(source, "import java.util.function.BiConsumer;\npublic final class Shown {\n"
                + "public static void all(BiConsumer<Integer, Long> answered) {\n" + body + "}\n}\n");
            String path = System.getProperty("java.class.path");
            int failed = ToolProvider.findFirst("javac").orElseThrow().run(new PrintWriter(System.out, true),
                new PrintWriter(System.out, true), "-cp", path, "-d", place.toString(), source.toString());
            must(failed == 0, "what README.md shows does not compile");
            if (failed == 0) {
                run(place);
            }
        } finally {
            remove(place);
        }
    }

    private static void run(Path place) throws Exception {
        int[] asked = {0};
        BiConsumer<Integer, Long> answered = (i, got) -> {
            asked[0]++;
            must(got.equals(due.get(i)), told.get(i) + " answered " + got + ", README.md says " + due.get(i));
        };
        try (URLClassLoader loader = new URLClassLoader(new URL[] {place.toUri().toURL()})) {
            loader.loadClass("Shown").getMethod("all", BiConsumer.class).invoke(null, answered);
        }
        must(asked[0] == told.size(), "not every call that is shown was asked");
    }

    private static void remove(Path place) throws IOException {
        try (var files = Files.list(place)) {
            for (Path file : files.toList()) {
                Files.delete(file);
            }
        }
        Files.delete(place);
    }
}
