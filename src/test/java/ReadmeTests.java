import java.io.File;
import java.io.IOException;
import java.lang.reflect.Method;
import java.lang.reflect.Modifier;
import java.nio.file.Files;
import java.nio.file.Path;
import java.util.List;
import java.util.regex.Matcher;
import java.util.regex.Pattern;

/** That README.md tells how the class and its tests are used as they stand. */
public final class ReadmeTests extends Checks {
    private static final Pattern SHOWN = Pattern.compile("board\\.(\\w+)\\(([-\\d, ]*)\\);\\s+// (-?\\d+)(:.*)?");
    private static final Pattern FED = Pattern.compile("feed\\(board, \"(.*)\"\\);");

    public static void main(String[] args) throws IllegalAccessException {
        runAll(ReadmeTests.class);
    }

    private static List<String> lines() throws IOException {
        return Files.readAllLines(Path.of("README.md"));
    }

    /** Each call that is shown, in its order, on one object. */
    static void what_is_shown_is_answered() throws IOException, ReflectiveOperationException {
        WreckBoard board = new WreckBoard();
        int shown = 0;
        for (String line : lines()) {
            Matcher fed = FED.matcher(line);
            if (fed.matches()) {
                feed(board, fed.group(1));
            } else if (line.startsWith("board.")) {
                Matcher call = SHOWN.matcher(line);
                due("the form of: " + line, call.matches() ? 1 : 0, 1);
                due(line, answer(board, call.group(1), call.group(2)), Long.parseLong(call.group(3)));
                shown++;
            }
        }
        due("calls shown, more than 20", shown > 20 ? 1 : 0, 1);
    }

    /** What a call of ints answers. */
    private static int answer(WreckBoard board, String name, String numbers) throws ReflectiveOperationException {
        String[] parts = numbers.isEmpty() ? new String[0] : numbers.split(", ");
        Class<?>[] types = new Class<?>[parts.length];
        Object[] given = new Object[parts.length];
        for (int i = 0; i < parts.length; i++) {
            types[i] = int.class;
            given[i] = Integer.valueOf(parts[i]);
        }
        return (Integer) WreckBoard.class.getMethod(name, types).invoke(board, given);
    }

    /** Each call has its place in a table, with as many parameters as it has. */
    static void each_call_is_told() throws IOException {
        String text = String.join("\n", lines());
        for (Method method : WreckBoard.class.getDeclaredMethods()) {
            if (Modifier.isPublic(method.getModifiers())) {
                Matcher told = Pattern.compile("`" + method.getName() + "\\(([^)]*)\\)`").matcher(text);
                boolean found = false;
                while (told.find() && !found) {
                    int parameters = told.group(1).isEmpty() ? 0 : told.group(1).split(",").length;
                    found = parameters == method.getParameterCount();
                }
                due(method + " is told", found ? 1 : 0, 1);
            }
        }
    }

    static void each_refusal_is_told() throws IOException {
        String text = String.join("\n", lines());
        String[] names = {"`BAD` -1 ", "`FULL` -2 ", "`NONE` -3 ", "`STATE` -4 ", "-9 ", "-11 ", "-12 ", "-13 ", "-14 ",
            "-15 ", "-100 "};
        for (String name : names) {
            due(name + "is told", text.contains("\n| " + name) ? 1 : 0, 1);
        }
    }

    static void each_class_of_tests_is_told() throws IOException {
        String text = String.join("\n", lines());
        File[] files = new File("src/test/java").listFiles();
        for (File file : files == null ? new File[0] : files) {
            String name = file.getName().replace(".java", "");
            due(name + " is told", text.contains("`" + name + "`") ? 1 : 0, 1);
        }
        Matcher told = Pattern.compile("`(\\w+Tests|Checks|NaiveBoard)`").matcher(text);
        while (told.find()) {
            boolean there = new File("src/test/java/" + told.group(1) + ".java").exists();
            due(told.group(1) + " is there", there ? 1 : 0, 1);
        }
        due(".ci/run is told", text.contains("\n.ci/run\n") ? 1 : 0, 1);
    }
}
