import java.lang.reflect.InvocationTargetException;
import java.lang.reflect.Method;
import java.util.ArrayList;
import java.util.Arrays;
import java.util.Comparator;
import java.util.List;
import java.util.SplittableRandom;

/** Runs of 512 calls by chance (always the same ones), each answer held against NaiveBoard's. */
public final class RandomRunsTests {
    private static final int RUNS = 150;
    private static final int CALLS = 512;

    private final SplittableRandom chance;
    /** Half of the calls of such a run have any numbers. */
    private final boolean wild;
    private final WreckBoard real = new WreckBoard();
    private final NaiveBoard naive = new NaiveBoard();
    private final List<String> told = new ArrayList<>();

    private RandomRunsTests(long seed) {
        chance = new SplittableRandom(seed);
        wild = seed % 3 == 0;
    }

    public static void main(String[] args) throws ReflectiveOperationException {
        int runs = args.length > 0 ? Integer.parseInt(args[0]) : RUNS;
        int failed = 0;
        for (int run = 1; run <= runs; run++) {
            if (!new RandomRunsTests(run).goesWell(run)) {
                failed++;
            }
        }
        System.out.println((runs - failed) + " passed, " + failed + " failed");
        if (failed > 0) {
            System.exit(1);
        }
    }

    private boolean goesWell(int run) throws ReflectiveOperationException {
        int calls = 0;
        while (calls < CALLS) {
            List<Object[]> some = someCalls();
            for (Object[] call : some) {
                calls++;
                if (calls <= CALLS && !agrees(run, calls, (String) call[0], (long[]) call[1])) {
                    return false;
                }
            }
        }
        return true;
    }

    private boolean agrees(int run, int number, String name, long[] args) throws ReflectiveOperationException {
        StringBuilder call = new StringBuilder(name).append('(');
        for (int i = 0; i < args.length; i++) {
            call.append(i > 0 ? ", " : "").append(args[i]);
        }
        call.append(')');
        int want = naive.call(name, args);
        Object got;
        try {
            got = callReal(name, args);
        } catch (InvocationTargetException thrown) {
            got = thrown.getCause();
        }
        told.add(call + " -> " + got);
        if (got.equals(want)) {
            return true;
        }
        System.out.println("run " + run + ", call " + number + ": " + call + " answered " + got + ", due is " + want);
        System.out.println("  calls ahead: " + told);
        return false;
    }

    private static final Method[] METHODS = WreckBoard.class.getDeclaredMethods();

    /** The public ones, in an order that is always the same. */
    private static final Method[] FACE = Arrays.stream(WreckBoard.class.getMethods())
        .filter(method -> method.getDeclaringClass() == WreckBoard.class)
        .sorted(Comparator.comparing(Method::getName)).toArray(Method[]::new);

    private Object callReal(String name, long[] args) throws ReflectiveOperationException {
        for (Method method : METHODS) {
            if (method.getName().equals(name)) {
                Class<?>[] types = method.getParameterTypes();
                Object[] boxed = new Object[args.length];
                for (int i = 0; i < args.length; i++) {
                    boxed[i] = types[i] == long.class ? (Object) args[i] : (Object) (int) args[i];
                }
                return method.invoke(real, boxed);
            }
        }
        throw new IllegalStateException(name);
    }

    // ---- which calls

    /** Mostly from least to most, at times one beside that, seldom any int. */
    private int near(int least, int most) {
        int dice = chance.nextInt(60);
        if (dice == 0) {
            return least - 1;
        }
        if (dice == 1) {
            return most + 1;
        }
        if (dice == 2) {
            int[] odd = {Integer.MIN_VALUE, Integer.MAX_VALUE, -2, -1, 0, 1 << 30, chance.nextInt()};
            return odd[chance.nextInt(odd.length)];
        }
        return least + chance.nextInt(most - least + 1);
    }

    private int aMember() {
        int many = naive.s.members.size();
        return many > 0 ? near(0, many - 1) : near(0, 5);
    }

    private int aSet() {
        return near(0, (1 << naive.s.members.size()) - 1);
    }

    private static void add(List<Object[]> calls, String name, long... args) {
        calls.add(new Object[] {name, args});
    }

    private List<Object[]> someCalls() {
        List<Object[]> calls = new ArrayList<>();
        if (wild && chance.nextInt(2) == 0) {
            anyCall(calls);
            return calls;
        }
        int dice = chance.nextInt(100);
        if (dice < 22) {
            boardCall(calls);
        } else if (dice < 40) {
            askCall(calls);
        } else if (dice < 50) {
            planCall(calls);
        } else if (dice < 66) {
            nightCall(calls);
        } else if (dice < 72) {
            strangerCall(calls);
        } else if (dice < 79) {
            rowCall(calls);
        } else if (dice < 94) {
            hostCall(calls);
        } else if (dice < 98) {
            ruleCalls(calls);
        } else {
            add(calls, chance.nextInt(2) == 0 ? "keep" : "again");
        }
        return calls;
    }

    /** Any method, with any numbers. */
    private void anyCall(List<Object[]> calls) {
        Method method = FACE[chance.nextInt(FACE.length)];
        long[] args = new long[method.getParameterCount()];
        for (int i = 0; i < args.length; i++) {
            args[i] = anyInt();
        }
        add(calls, method.getName(), args);
    }

    private int anyInt() {
        int[] edges = {Integer.MIN_VALUE, Integer.MAX_VALUE, 0x10000, -0x10000, 1 << 30, 199, 200, 201, 998, 999, 1000,
            63, 64, 65, 39, 40, 41};
        int dice = chance.nextInt(10);
        if (dice == 0) {
            return chance.nextInt();
        }
        return dice < 3 ? edges[chance.nextInt(edges.length)] + chance.nextInt(3) - 1 : chance.nextInt(20) - 3;
    }

    private void boardCall(List<Object[]> calls) {
        switch (chance.nextInt(12)) {
            case 0: case 1: case 2: add(calls, "member", near(1, 5), near(0, 9), near(0, 9), near(0, 5)); break;
            case 3: case 4: changeCall(calls); break;
            case 5: add(calls, "remake", aMember(), near(1, 5)); break;
            case 6: case 7: add(calls, "ship", near(0, 15), near(0, 15)); break;
            case 8: add(calls, "bench", near(0, 5), near(0, 1), near(0, chance.nextInt(3) == 0 ? 9 : 2)); break;
            case 9: rockCall(calls); break;
            case 10: add(calls, "ends", near(1, 16)); break;
            default: add(calls, "anew"); break;
        }
    }

    private void changeCall(List<Object[]> calls) {
        int what = near(1, 4);
        int[] most = {9, 9, 9, 5, 1};
        add(calls, "change", aMember(), what, near(0, what >= 0 && what < 5 ? most[what] : 9));
    }

    private void rockCall(List<Object[]> calls) {
        if (chance.nextInt(2) == 0) {
            add(calls, "rock", near(0, 1), near(0, 9));
        } else {
            add(calls, "rock", 1, near(chance.nextInt(2) == 0 ? 980 : 0, 999));
        }
    }

    private void askCall(List<Object[]> calls) {
        switch (chance.nextInt(12)) {
            case 0: case 1: add(calls, "memberOf", aMember(), near(0, 8)); break;
            case 2: add(calls, "benchOf", near(0, 5), near(0, 1)); break;
            case 3: add(calls, "state", near(0, 8)); break;
            case 4: add(calls, "on", near(0, 16)); break;
            case 5: add(calls, "when", aMember()); break;
            case 6: add(calls, "votesFor", aMember()); break;
            case 7: add(calls, "benchFor", aMember()); break;
            case 8: add(calls, "fund", near(0, chance.nextInt(2) == 0 ? 100 : 999)); break;
            case 9: add(calls, "wrecks", near(0, 1)); break;
            case 10: add(calls, "parties", near(-1, 5)); break;
            default: add(calls, chance.nextInt(4) == 0 ? "many" : "power", aMember()); break;
        }
    }

    private void planCall(List<Object[]> calls) {
        // PLANS of 4 are dear to the naive one.
        int n = near(0, chance.nextInt(8) == 0 ? 4 : 3);
        switch (chance.nextInt(7)) {
            case 0: add(calls, "best", n); break;
            case 1: add(calls, "ith", n, near(0, 3)); break;
            case 2: add(calls, "ways", n); break;
            case 3: add(calls, "agenda", n, aSet()); break;
            case 4: add(calls, "bars", n, aSet()); break;
            case 5: add(calls, "game", n); break;
            default: add(calls, "play", n); break;
        }
    }

    private void nightCall(List<Object[]> calls) {
        switch (chance.nextInt(8)) {
            case 0: case 1: case 2: add(calls, "night"); break;
            case 3: case 4: add(calls, "lot"); break;
            case 5: add(calls, "seed", near(-1000, 1000)); break;
            case 6: add(calls, "times", near(1, 40), near(0, chance.nextInt(4) == 0 ? 999 : 60)); break;
            default: add(calls, "state", near(0, 8)); break;
        }
    }

    private void strangerCall(List<Object[]> calls) {
        switch (chance.nextInt(9)) {
            case 0: case 1: case 2: case 3: case 4: {
                int asked = near(0, 1);
                int most = asked == 1 && chance.nextInt(2) == 0 ? 60 : 9;
                int least = near(0, most);
                add(calls, "report", near(0, 15), asked, least, near(Math.max(0, Math.min(least, most)), most));
                break;
            }
            case 5: add(calls, "liar"); break;
            case 6: case 7: add(calls, "lone", near(0, 3)); break;
            default: if (chance.nextInt(3) == 0) {
                add(calls, "forget");
            } else {
                add(calls, "liar");
            }
        }
    }

    private void rowCall(List<Object[]> calls) {
        int k = near(0, Math.max(0, naive.rows.size() - 1));
        switch (chance.nextInt(8)) {
            case 0: case 1: add(calls, "prove", near(0, 3)); break;
            case 2: case 3: add(calls, "row", k, near(0, 2)); break;
            case 4: add(calls, "alterRow", k, near(0, 2), near(0, 6)); break;
            default: add(calls, "judge"); break;
        }
    }

    private void hostCall(List<Object[]> calls) {
        int at = near(0, 3);
        int[] many = new int[4];
        for (int i = 0; i < 4; i++) {
            many[i] = naive.sheet[i] == null ? 3 : naive.sheet[i].length;
        }
        int place = at >= 0 && at < 4 ? near(0, Math.max(0, many[at] - 1)) : 0;
        int sort = at >= 0 && at < 4 && chance.nextInt(4) > 0 ? naive.sort[at] : near(-1, 4);
        switch (chance.nextInt(14)) {
            case 0: add(calls, "sheet", at, chance.nextInt(2) == 0 ? 0 : near(-1, 4), near(0, 40)); break;
            case 1: add(calls, "sheet", at, near(-1, 4), near(0, 6)); break;
            case 2: case 3: add(calls, "write", at, place, near(0, naive.s.members.size())); break;
            case 4: add(calls, "write", at, place, chance.nextInt()); break;
            case 5: case 6: add(calls, "item", at, sort, place); break;
            case 7: add(calls, "goAll", at, place, near(0, chance.nextInt(2) == 0 ? 20 : 3)); break;
            case 8: add(calls, "wouldBe", at, place, near(0, chance.nextInt(2) == 0 ? 20 : 3)); break;
            case 9: case 10: {
                int what = near(0, 2);
                add(calls, "shelf", at, what, what == 0 ? aMember() : near(0, 3));
                break;
            }
            case 11: add(calls, "taken", at, chance.nextInt(2) == 0 ? near(0, 5) : near(10, 14)); break;
            default: {
                add(calls, "act", at, near(0, 3), chance.nextInt(2) == 0 ? chance.nextInt() : near(-20, 20));
                for (int i = chance.nextInt(14); i >= 0; i -= 3) {
                    add(calls, "trace", i);
                }
                add(calls, "many", 6);
            }
        }
    }

    // ---- texts

    private void ruleCalls(List<Object[]> calls) {
        StringBuilder text = new StringBuilder();
        for (int i = chance.nextInt(chance.nextInt(6) == 0 ? 12 : 5); i >= 0; i--) {
            text.append(NaiveBoard.KINDS[chance.nextInt(6)]).append(' ');
            if (chance.nextInt(3) > 0) {
                text.append("if ").append(condition(chance.nextInt(5) == 0 ? 5 : 3)).append(' ');
            }
            text.append(NaiveBoard.DOS[chance.nextInt(3)]).append(chance.nextInt(4) == 0 ? " ; " : ";");
        }
        if (chance.nextInt(3) == 0) {
            spoil(text);
        }
        if (text.length() > 200 && chance.nextInt(8) > 0) {
            text.setLength(text.lastIndexOf(";", 199) + 1);
        }
        for (int i = 0; i < text.length(); i += 8) {
            int n = Math.min(8, text.length() - i);
            long eight = n < 8 && chance.nextBoolean() ? -1L << 8 * n : 0;
            for (int j = 0; j < n; j++) {
                eight |= (long) text.charAt(i + j) << 8 * j;
            }
            add(calls, "feed", eight, n);
        }
        add(calls, "rules");
        add(calls, "many", 1);
        add(calls, "on", 16);
    }

    private void spoil(StringBuilder text) {
        int at = chance.nextInt(text.length() + 1);
        String[] odd = {"(", ")", " ", "not ", "12345", "7", " and ", " or ", ";", "x", "<", "\u00e9", "\n", "if", "A",
            "=="};
        switch (chance.nextInt(3)) {
            case 0: text.insert(at, odd[chance.nextInt(odd.length)]); break;
            case 1: text.setLength(at); break;
            default: text.delete(at, Math.min(text.length(), at + 1 + chance.nextInt(3))); break;
        }
    }

    private String condition(int depth) {
        int dice = chance.nextInt(depth > 0 ? 8 : 2);
        if (dice < 3) {
            return value() + (chance.nextBoolean() ? " " : "") + "<=>".charAt(chance.nextInt(3)) + value();
        }
        if (dice < 4) {
            return "not " + condition(depth - 1);
        }
        if (dice < 5) {
            return "(" + condition(depth - 1) + ")";
        }
        return condition(depth - 1) + (dice < 7 ? " and " : " or ") + condition(depth - 1);
    }

    private String value() {
        if (chance.nextInt(3) == 0) {
            return String.valueOf(chance.nextInt(chance.nextInt(5) == 0 ? 12000 : 10));
        }
        return NaiveBoard.FACTS.get(chance.nextInt(5));
    }
}
