import java.io.IOException;
import java.lang.reflect.Field;
import java.lang.reflect.Member;
import java.lang.reflect.Method;
import java.lang.reflect.Modifier;
import java.nio.file.Files;
import java.nio.file.Path;
import java.util.ArrayList;
import java.util.Arrays;
import java.util.List;
import java.util.Set;
import java.util.TreeSet;
import java.util.regex.Matcher;
import java.util.regex.Pattern;

/** What of LANGUAGE.md, and of the document's face, can be seen without reading the program through. */
public final class LanguageTests {
    private static int wrong;
    private static int passed;
    private static int failed;

    public static void main(String[] args) throws IOException {
        String source = Files.readString(Path.of(args.length > 0 ? args[0] : "src/main/java/WreckBoard.java"));
        face();
        counts("the face");
        classesAndFields();
        counts("classes and fields");
        words(source);
        counts("words");
        lengths(source);
        counts("lengths");
        System.out.println(passed + " passed, " + failed + " failed");
        if (failed > 0) {
            System.exit(1);
        }
    }

    private static void counts(String test) {
        if (wrong == 0) {
            passed++;
        } else {
            failed++;
            System.out.println(test + ": failed");
        }
        wrong = 0;
    }

    private static void check(String what, boolean so) {
        if (!so) {
            wrong++;
            System.out.println("not so: " + what);
        }
    }

    /** Rule 1. */
    private static void face() {
        Set<String> want = new TreeSet<>(List.of("member 4", "memberOf 2", "change 3", "remake 2", "ship 2", "bench 3",
            "benchOf 2", "rock 2", "ends 1", "anew 0", "state 1", "feed 2", "rules 0", "night 0", "on 1", "when 1",
            "votesFor 1", "benchFor 1", "fund 1", "wrecks 1", "parties 1", "power 1", "best 1", "ith 2", "ways 1",
            "agenda 2", "bars 2", "game 1", "play 1", "report 4", "forget 0", "lone 1", "liar 0", "seed 1", "lot 0",
            "times 2", "prove 1", "row 2", "alterRow 3", "judge 0", "sheet 3", "write 3", "item 3", "goAll 3",
            "wouldBe 3", "shelf 3", "taken 2", "act 3", "trace 1", "many 1", "keep 0", "again 0"));
        Set<String> got = new TreeSet<>();
        Set<String> privates = new TreeSet<>();
        Set<String> names = new TreeSet<>();
        for (Method method : WreckBoard.class.getDeclaredMethods()) {
            if (Modifier.isPrivate(method.getModifiers())) {
                privates.add(method.getName());
            } else {
                got.add(method.getName() + " " + method.getParameterCount());
                names.add(method.getName());
                check(method + " is public, and answers an int", Modifier.isPublic(method.getModifiers())
                    && !Modifier.isStatic(method.getModifiers()) && method.getReturnType() == int.class);
            }
        }
        check("the face is the document's: " + got, got.equals(want));
        privates.retainAll(names);
        check("no private method bears the name of a public one: " + privates, privates.isEmpty());
        Set<String> fields = new TreeSet<>();
        for (Field field : WreckBoard.class.getDeclaredFields()) {
            if (!Modifier.isPrivate(field.getModifiers())) {
                fields.add(Modifier.toString(field.getModifiers()) + " " + field.getType() + " " + field.getName());
            }
        }
        String form = "public static final int ";
        Set<String> constants = Set.of(form + "BAD", form + "FULL", form + "NONE", form + "STATE");
        check("constants: " + fields, fields.equals(constants));
        check("the class is final", Modifier.isFinal(WreckBoard.class.getModifiers()));
        check("one constructor", WreckBoard.class.getDeclaredConstructors().length == 1);
    }

    /** Rules 2, 5, 11. */
    private static void classesAndFields() {
        List<Class<?>> classes = new ArrayList<>(Arrays.asList(WreckBoard.class.getDeclaredClasses()));
        check("some twelve classes", classes.size() < 12);
        classes.add(WreckBoard.class);
        for (Class<?> one : classes) {
            check(one + " is static", one == WreckBoard.class || Modifier.isStatic(one.getModifiers()));
            int own = 0;
            for (Member member : one.getDeclaredFields()) {
                boolean isStatic = Modifier.isStatic(member.getModifiers());
                own += isStatic ? 0 : 1;
                check(member + " is final", !isStatic || Modifier.isFinal(member.getModifiers()));
            }
            check(one + " has some twenty fields", own <= 20);
            for (Method method : one.getDeclaredMethods()) {
                check(method + " takes seven at most", method.getParameterCount() <= 7);
            }
        }
    }

    /** Rules 2, 4, 6, 13. */
    private static void words(String source) {
        String bare = source.replaceAll("(?s)/\\*.*?\\*/", " ").replaceAll("//[^\n]*", " ");
        String code = bare.replaceAll("\"[^\"\n]*\"", "T");
        String[] banned = {"throw", "throws", "try", "catch", "finally", "synchronized", "assert", "import", "package",
            "instanceof", "equals", "hashCode", "toString", "Object", "Thread", "volatile", "transient", "native",
            "Exact", "float", "double", "protected", "static \\{", "->", "::", "@", "\\bT \\+", "\\+ T\\b",
            "new \\w+\\[\\]"};
        for (String word : banned) {
            Matcher found = Pattern.compile(word.matches("\\w+") ? "\\b" + word + "\\b" : word).matcher(code);
            check("no " + word, !found.find());
        }
        for (int i = 0; i < source.length(); i++) {
            char sign = source.charAt(i);
            if (sign != '\n' && (sign < 32 || sign > 126)) {
                check("sign " + (int) sign + " at " + i, false);
            }
        }
        Matcher library = Pattern.compile("\\b(Math|Integer|Long|System|Arrays)\\.(\\w+)").matcher(code);
        Set<String> allowed = Set.of("Math.min", "Math.max", "Math.abs", "Integer.bitCount", "Integer.compare",
            "Integer.MIN_VALUE", "Integer.MAX_VALUE", "System.arraycopy", "Arrays.fill");
        while (library.find()) {
            check(library.group(), allowed.contains(library.group()));
        }
    }

    /** Rule 11: a method's lines, from its head to the brace that shuts it. */
    private static void lengths(String source) {
        String[] lines = source.split("\n");
        for (int i = 0; i < lines.length; i++) {
            check("line " + (i + 1) + " is no longer than 120", lines[i].length() <= 120);
            Matcher head = Pattern.compile("^( {4}| {8})[^ ].*\\) \\{$").matcher(lines[i]);
            if (head.matches()) {
                int end = i;
                while (!lines[end].equals(head.group(1) + "}")) {
                    end++;
                }
                check("the method in line " + (i + 1) + " is short", end - i < 60);
            }
        }
    }
}
