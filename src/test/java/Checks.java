import java.lang.reflect.InvocationTargetException;
import java.lang.reflect.Method;
import java.lang.reflect.Modifier;
import java.util.ArrayList;
import java.util.Arrays;
import java.util.Comparator;
import java.util.LinkedHashMap;
import java.util.List;
import java.util.Map;
import java.util.function.Supplier;

/** What the tests share: how an answer is held against what is due, how a class of tests runs, boards to ask. */
abstract class Checks {
    static final int BAD = -1, FULL = -2, NONE = -3, STATE = -4;
    static final int NO_ROW = -9;
    static final int NOTHING = -11, OUTSIDE = -12, OTHER_SORT = -13, BELOW_0 = -14, PARTED_BY_0 = -15;
    static final int WRECKER = 1, SAVER = 2, CHAIR = 3, FARMER = 4, LAD = 5;
    static final int DARK = 2, BRIGHT = 0, NEITHER = 1;
    static final int DIM = 0, KEEP = 1, TRIM = 2;
    static final int LOW = Integer.MIN_VALUE, HIGH = Integer.MAX_VALUE;

    private static int wrong;

    /** A call of a board. */
    interface Call {
        int on(WreckBoard board);
    }

    /** A call of a board, one number of which is told. */
    interface CallOf {
        int on(WreckBoard board, int v);
    }

    // ---- how tests run

    /** Runs each static method without parameters of a class, whose name isn't main; its last line is the counts. */
    static void runAll(Class<?> tests) throws IllegalAccessException {
        int passed = 0;
        int failed = 0;
        Method[] methods = tests.getDeclaredMethods();
        Arrays.sort(methods, Comparator.comparing(Method::getName));
        for (Method method : methods) {
            if (isTest(method)) {
                if (passes(method)) {
                    passed++;
                } else {
                    failed++;
                    System.out.println(method.getName() + " failed");
                }
            }
        }
        System.out.println(passed + " passed, " + failed + " failed");
        if (failed > 0 || passed == 0) {
            System.exit(1);
        }
    }

    private static boolean isTest(Method method) {
        int how = method.getModifiers();
        return Modifier.isStatic(how) && !Modifier.isPrivate(how) && method.getParameterCount() == 0;
    }

    private static boolean passes(Method test) throws IllegalAccessException {
        wrong = 0;
        try {
            test.invoke(null);
        } catch (InvocationTargetException thrown) {
            thrown.getCause().printStackTrace(System.out);
            return false;
        }
        return wrong == 0;
    }

    // ---- what is due

    static void due(String call, long got, long want) {
        if (got != want) {
            wrong++;
            System.out.println(call + " answered " + got + ", due is " + want);
        }
    }

    /** That two tell the same, by what they were asked. */
    static void same(String what, Map<String, Integer> got, Map<String, Integer> want) {
        due(what + ": how many answers", got.size(), want.size());
        for (Map.Entry<String, Integer> one : want.entrySet()) {
            Integer answer = got.get(one.getKey());
            if (answer == null || !answer.equals(one.getValue())) {
                due(what + ": then " + one.getKey(), answer == null ? Long.MIN_VALUE : answer, one.getValue());
            }
        }
    }

    /** That a board like these refuses a call so, and is then as one that wasn't asked. */
    static void refusedBy(Supplier<WreckBoard> made, String call, int want, Call asked) {
        WreckBoard board = made.get();
        due(call, asked.on(board), want);
        same(call + " changes nothing", allOf(board), allOf(made.get()));
    }

    static void refused(String call, int want, Call asked) {
        refusedBy(Checks::rich, call, want, asked);
    }

    /** That a call answers so, whenever it is asked, and changes nothing. */
    static void asked(Supplier<WreckBoard> made, String call, int want, Call asked) {
        WreckBoard board = made.get();
        due(call, asked.on(board), want);
        due(call + ", asked again", asked.on(board), want);
        same(call + " changes nothing", allOf(board), allOf(made.get()));
    }

    /** That a number of a call is taken from least to most by a rich board, and is BAD beside that. */
    static void bounds(String call, int least, int most, CallOf asked) {
        for (int v : beside(least, most)) {
            refused(call + " with " + v, BAD, board -> asked.on(board, v));
        }
        for (int v = least; v <= most; v++) {
            if (v < least + 20 || v > most - 20) {
                due(call + " with " + v + " is BAD", asked.on(rich(), v) == BAD ? 1 : 0, 0);
            }
        }
    }

    /** Each number that doesn't stand from least to most, near it and far. */
    static int[] beside(int least, int most) {
        return new int[] {least - 1, most + 1, LOW, HIGH};
    }

    // ---- how boards are told

    /** Tells rules by the tape: what rules() answers. */
    static int tell(WreckBoard b, String text) {
        feed(b, text);
        return b.rules();
    }

    /** Eight bytes a call, as far as they go. */
    static void feed(WreckBoard b, String text) {
        for (int from = 0; from < text.length(); from += 8) {
            int to = Math.min(text.length(), from + 8);
            long eight = 0;
            for (int i = to - 1; i >= from; i--) {
                eight = eight << 8 | text.charAt(i);
            }
            b.feed(eight, to - from);
        }
    }

    /** Every night of the board the same ship: 4 times its value, and how near. */
    static void allShips(WreckBoard b, int ship) {
        for (int night = 0; night < 16; night++) {
            b.ship(night, ship);
        }
    }

    /** Sheet 0 is a row of such bytes. */
    static void acts(WreckBoard b, int... acts) {
        b.sheet(0, 0, acts.length);
        for (int i = 0; i < acts.length; i++) {
            b.write(0, i, acts[i]);
        }
    }

    // ---- boards to ask

    static final String RICH_TAPE = "lad dim; chair if 1";

    /** A board that all can be asked of, and on which nothing is as at first; kept is another one. */
    static WreckBoard rich() {
        WreckBoard b = new WreckBoard();
        b.member(WRECKER, 6, 2, 0);
        b.member(SAVER, 3, 4, 1);
        b.member(FARMER, 7, 3, 1);
        b.member(LAD, 5, 9, 2);
        b.bench(1, 0, 1);
        b.bench(2, 1, 3);
        b.bench(5, 0, 9);
        b.ship(3, 11);
        b.ship(15, 13);
        b.report(2, 0, 3, 7);
        b.report(5, 1, 0, 60);
        tell(b, "saver if light < 4 trim; lad keep;");
        b.ends(14);
        b.night();
        b.keep();
        b.lot();
        b.night();
        b.member(CHAIR, 4, 1, 3);
        b.change(0, 1, 9);
        b.change(1, 4, 1);
        tell(b, "wrecker if number < 1 and night < 9 dim; lad keep; member if votes = 3 trim;");
        b.report(15, 0, 0, 6);
        b.ends(9);
        b.rock(0, 6);
        b.rock(1, 40);
        b.prove(3);
        b.alterRow(1, 1, -77);
        acts(b, 1, 4, -1);
        b.sheet(1, 3, 2);
        b.write(1, 1, 70000);
        b.sheet(2, 4, 1);
        b.shelf(0, 0, 2);
        b.shelf(1, 1, 0);
        b.shelf(2, 1, 1);
        b.act(0, 3, 7);
        feed(b, RICH_TAPE);
        return b;
    }

    /** All that can be asked of a board, in fewer than 400 calls; it is of no use then. */
    static Map<String, Integer> allOf(WreckBoard b) {
        Map<String, Integer> all = new LinkedHashMap<>();
        hostOf(all, b);
        boardOf(all, "", b);
        int[] places = sizesOf(all, b);
        for (int sheet = 0; sheet < 4; sheet++) {
            for (int i = 1; i < Math.min(places[sheet], 4); i++) {
                all.put("item " + i + " of sheet " + sheet, itemOf(b, sheet, i));
            }
        }
        all.put("bytes", b.many(5));
        all.put("rules(), of the tape as it is", b.rules());
        for (int k = 0; k < 6; k++) {
            all.put("will of " + k + " by the tape as it is", b.memberOf(k, 8));
        }
        all.put("again()", b.again());
        boardOf(all, "kept: ", b);
        return all;
    }

    private static void hostOf(Map<String, Integer> all, WreckBoard b) {
        for (int k = 0; k < 4; k++) {
            for (int what = 0; what < 3; what++) {
                all.put("row(" + k + ", " + what + ")", b.row(k, what));
            }
        }
        for (int i = 0; i < 12; i++) {
            all.put("trace(" + i + ")", b.trace(i));
        }
        for (int shelf = 0; shelf < 4; shelf++) {
            for (int as = 0; as < 15; as = as == 5 ? 10 : as + 1) {
                all.put("taken(" + shelf + ", " + as + ")", b.taken(shelf, as));
            }
        }
        for (int sheet = 0; sheet < 4; sheet++) {
            for (int sort = 0; sort < 5; sort++) {
                all.put("item(" + sheet + ", " + sort + ", 0)", b.item(sheet, sort, 0));
            }
        }
    }

    /** What keep() keeps. */
    private static void boardOf(Map<String, Integer> all, String of, WreckBoard b) {
        for (int what = 0; what <= 8; what++) {
            all.put(of + "state(" + what + ")", b.state(what));
        }
        int members = b.many(0);
        for (int k = 0; k < members; k++) {
            for (int what = 0; what <= 8; what++) {
                all.put(of + "memberOf(" + k + ", " + what + ")", b.memberOf(k, what));
            }
        }
        for (int f = 0; f < 6; f++) {
            all.put(of + "hush of " + f, b.benchOf(f, 0));
            all.put(of + "zeal of " + f, b.benchOf(f, 1));
        }
        for (int what = 0; what <= 6; what++) {
            all.put(of + "many(" + what + ")", b.many(what));
        }
        for (int what = 0; what <= 3; what++) {
            all.put(of + "lone(" + what + ")", b.lone(what));
        }
        all.put(of + "liar()", b.liar());
        all.put(of + "z", b.seed(0));
        for (int night = 0; night < 16; night++) {
            all.put(of + "ship of " + night, b.ship(night, 0));
        }
    }

    private static int[] sizesOf(Map<String, Integer> all, WreckBoard b) {
        int[] sizes = new int[4];
        for (int sheet = 0; sheet < 4; sheet++) {
            b.shelf(0, 1, sheet);
            for (int sort = 0; sort < 5; sort++) {
                sizes[sheet] = Math.max(sizes[sheet], b.taken(0, 10 + sort));
            }
            all.put("size of sheet " + sheet, sizes[sheet]);
        }
        return sizes;
    }

    private static int itemOf(WreckBoard b, int sheet, int i) {
        for (int sort = 0; sort < 5; sort++) {
            int item = b.item(sheet, sort, i);
            if (item != OTHER_SORT) {
                return item;
            }
        }
        return OTHER_SORT;
    }

    /** What is asked one by one, as a row. */
    static List<Integer> rowOf(int from, int to, CallOf asked, WreckBoard b) {
        List<Integer> row = new ArrayList<>();
        for (int v = from; v <= to; v++) {
            row.add(asked.on(b, v));
        }
        return row;
    }
}
