import java.util.Map;

/** Edges of the host, its SHEETS, SHELVES and ACTS, and of what is kept: part 3 of the Terms, promises 42 to 53. */
public final class HostEdgesTests extends Checks {
    private static final int BYTES = 0, SHORTS = 1, INTS = 2, LONGS = 3, BOOLEANS = 4;

    public static void main(String[] args) throws IllegalAccessException {
        runAll(HostEdgesTests.class);
    }

    private static WreckBoard over() {
        WreckBoard b = rich();
        b.ends(3);
        return b;
    }

    /** Three wreckers that carry whenever they are told, and such bytes on sheet 0. */
    private static WreckBoard told(int... acts) {
        WreckBoard b = new WreckBoard();
        for (int k = 0; k < 3; k++) {
            b.member(WRECKER, 4, 1, 0);
        }
        allShips(b, 4);
        acts(b, acts);
        return b;
    }

    /** A row of 40, all 1, of such a sort on sheet 2. */
    private static WreckBoard full(int sort) {
        WreckBoard b = new WreckBoard();
        b.sheet(2, sort, 40);
        for (int i = 0; i < 40; i++) {
            b.write(2, i, 1);
        }
        return b;
    }

    // ---- "SHEETS 0 to 3 are .. missing (at first). SHELVES 0 to 3 hold .. nothing (at first)."

    static void t3_sheets_missingAtFirst() {
        for (int sheet = 0; sheet < 4; sheet++) {
            int at = sheet;
            for (int sort = 0; sort <= 4; sort++) {
                int as = sort;
                refusedBy(WreckBoard::new, "item(" + sheet + ", " + sort + ", 0)", NOTHING, b -> b.item(at, as, 0));
            }
            refusedBy(WreckBoard::new, "write(" + sheet + ", 0, 1)", NOTHING, b -> b.write(at, 0, 1));
            refusedBy(WreckBoard::new, "goAll(" + sheet + ", 0, 0)", NOTHING, b -> b.goAll(at, 0, 0));
            refusedBy(WreckBoard::new, "wouldBe(" + sheet + ", 0, 0)", NOTHING, b -> b.wouldBe(at, 0, 0));
        }
    }

    static void t3_shelves_nothingAtFirst() {
        for (int shelf = 0; shelf < 4; shelf++) {
            int at = shelf;
            for (int as = 0; as <= 14; as++) {
                int taken = as;
                boolean is = as <= 5 || as >= 10;
                refusedBy(WreckBoard::new, "taken(" + shelf + ", " + as + ")", is ? NOTHING : BAD,
                    b -> b.taken(at, taken));
            }
            due("act(" + shelf + ", 0, 7)", new WreckBoard().act(shelf, 0, 7), 0);
        }
    }

    // ---- promise 42: "A SHEET becomes a row of n of a sort, all 0, or missing (sort -1; n counts nothing then): 1."

    static void p42_sheet_0To3() {
        bounds("sheet(.., 0, 1)", 0, 3, (b, v) -> b.sheet(v, 0, 1));
        bounds("sheet(.., -1, 1)", 0, 3, (b, v) -> b.sheet(v, -1, 1));
    }

    static void p42_sheet_sortMinus1To4() {
        bounds("sheet(1, .., 1)", -1, 4, (b, v) -> b.sheet(1, v, 1));
    }

    static void p42_sheet_40AtMost() {
        for (int sort = 0; sort <= 4; sort++) {
            int of = sort;
            for (int n : new int[] {0, 1, 39, 40}) {
                WreckBoard b = new WreckBoard();
                due("sheet(1, " + sort + ", " + n + ")", b.sheet(1, sort, n), 1);
                due("its last", b.item(1, sort, n - 1), n == 0 ? OUTSIDE : 0);
                due("behind its last", b.item(1, sort, n), OUTSIDE);
                b.shelf(0, 1, 1);
                due("its size", b.taken(0, 10 + sort), n);
            }
            for (int n : new int[] {41, 42, HIGH}) {
                refused("sheet(1, " + sort + ", " + n + ")", BAD, b -> b.sheet(1, of, n));
            }
        }
    }

    static void p42_sheet_below0() {
        for (int sort = 0; sort <= 4; sort++) {
            int of = sort;
            for (int n : new int[] {-1, -2, LOW}) {
                refused("sheet(1, " + sort + ", " + n + ")", BELOW_0, b -> b.sheet(1, of, n));
                refusedBy(WreckBoard::new, "sheet(1, " + sort + ", " + n + ") at first", BELOW_0,
                    b -> b.sheet(1, of, n));
            }
        }
    }

    static void p42_sheet_badAheadOfBelow0() {
        refused("sheet(4, 0, -1)", BAD, b -> b.sheet(4, 0, -1));
        refused("sheet(-1, 0, -1)", BAD, b -> b.sheet(-1, 0, -1));
        refused("sheet(0, 5, -1)", BAD, b -> b.sheet(0, 5, -1));
        refused("sheet(0, -2, -1)", BAD, b -> b.sheet(0, -2, -1));
    }

    static void p42_sheet_missingWhateverN() {
        for (int n : new int[] {0, -1, 41, LOW, HIGH}) {
            WreckBoard b = full(INTS);
            due("sheet(2, -1, " + n + ")", b.sheet(2, -1, n), 1);
            due("item(2, 2, 0)", b.item(2, INTS, 0), NOTHING);
            due("sheet(2, -1, " + n + ") again", b.sheet(2, -1, n), 1);
        }
    }

    static void p42_sheet_all0() {
        for (int sort = 0; sort <= 4; sort++) {
            for (int next = 0; next <= 4; next++) {
                WreckBoard b = full(sort);
                due("sheet(2, " + next + ", 40)", b.sheet(2, next, 40), 1);
                for (int i = 0; i < 40; i++) {
                    due("item " + i, b.item(2, next, i), 0);
                }
            }
        }
        WreckBoard b = full(BYTES);
        b.sheet(2, BYTES, 3);
        b.sheet(2, BYTES, 40);
        for (int i = 0; i < 40; i++) {
            due("item " + i, b.item(2, BYTES, i), 0);
        }
        WreckBoard gone = full(BYTES);
        gone.sheet(2, -1, 0);
        gone.sheet(2, BYTES, 40);
        due("item 39", gone.item(2, BYTES, 39), 0);
    }

    // ---- promise 43: "Item i becomes v, narrowed to its sort (booleans: whether it is not 0): 1."

    static void p43_write_narrowed() {
        int[] all = {0, 1, -1, 127, 128, -128, -129, 255, 256, 257, 32767, 32768, -32768, -32769, 65535, 65536, 65537,
            1 << 24, LOW, LOW + 1, HIGH, 0x12345678, 0x89ABCDEF};
        for (int v : all) {
            int low8 = v & 255;
            int low16 = v & 65535;
            int[] want = {low8 > 127 ? low8 - 256 : low8, low16 > 32767 ? low16 - 65536 : low16, v, v, v == 0 ? 0 : 1};
            for (int sort = 0; sort <= 4; sort++) {
                WreckBoard b = new WreckBoard();
                b.sheet(3, sort, 40);
                for (int i : new int[] {0, 39}) {
                    due("write(3, " + i + ", " + v + ")", b.write(3, i, v), 1);
                    due("item(3, " + sort + ", " + i + ")", b.item(3, sort, i), want[sort]);
                }
                due("item 1", b.item(3, sort, 1), 0);
                due("item 38", b.item(3, sort, 38), 0);
            }
        }
    }

    static void p43_write_0To3() {
        for (int sheet : beside(0, 3)) {
            refused("write(" + sheet + ", 0, 1)", BAD, b -> b.write(sheet, 0, 1));
        }
        for (int sheet = 0; sheet <= 3; sheet++) {
            WreckBoard b = new WreckBoard();
            for (int at = 0; at <= 3; at++) {
                b.sheet(at, INTS, 2);
            }
            due("write", b.write(sheet, 1, 77), 1);
            for (int at = 0; at <= 3; at++) {
                due("item(" + at + ", 2, 1)", b.item(at, INTS, 1), at == sheet ? 77 : 0);
            }
        }
    }

    static void p43_write_nothingAheadOfOutside() {
        for (int i : new int[] {0, -1, 40, LOW, HIGH}) {
            refused("write(3, " + i + ", 1)", NOTHING, b -> b.write(3, i, 1));
        }
    }

    static void p43_write_outside() {
        for (int i : beside(0, 2)) {
            refused("write(0, " + i + ", 1)", OUTSIDE, b -> b.write(0, i, 1));
        }
        for (int i : beside(0, 39)) {
            refusedBy(() -> full(SHORTS), "write(2, " + i + ", 7) of 40", OUTSIDE, b -> b.write(2, i, 7));
        }
        refusedBy(HostEdgesTests::ofNone, "write(2, 0, 1) of a row of none", OUTSIDE, b -> b.write(2, 0, 1));
        refusedBy(HostEdgesTests::ofNone, "write(2, -1, 1) of a row of none", OUTSIDE, b -> b.write(2, -1, 1));
    }

    private static WreckBoard ofNone() {
        WreckBoard b = new WreckBoard();
        b.sheet(2, BYTES, 0);
        return b;
    }

    // ---- promise 44: "Item i, taken for a sort (0 to 4; ..). BAD: no such SHEET, sort; -13; -11; -12."

    static void p44_item_badSheetOrSort() {
        for (int sheet : beside(0, 3)) {
            refused("item(" + sheet + ", 0, 0)", BAD, b -> b.item(sheet, 0, 0));
        }
        for (int sort : beside(0, 4)) {
            refused("item(0, " + sort + ", 0)", BAD, b -> b.item(0, sort, 0));
            refused("item(0, " + sort + ", 77): ahead of outside", BAD, b -> b.item(0, sort, 77));
            refused("item(3, " + sort + ", 0): ahead of nothing", BAD, b -> b.item(3, sort, 0));
        }
    }

    static void p44_item_ofAnotherSort() {
        for (int sort = 0; sort <= 4; sort++) {
            int of = sort;
            for (int as = 0; as <= 4; as++) {
                int taken = as;
                if (as != sort) {
                    for (int i : new int[] {0, 39, 40, -1, LOW, HIGH}) {
                        refusedBy(() -> full(of), "item(2, " + as + ", " + i + ") of sort " + sort, OTHER_SORT,
                            b -> b.item(2, taken, i));
                    }
                }
            }
        }
    }

    static void p44_item_nothingAheadOfOutside() {
        for (int sort = 0; sort <= 4; sort++) {
            int as = sort;
            for (int i : new int[] {0, -1, 40, LOW, HIGH}) {
                refused("item(3, " + sort + ", " + i + ")", NOTHING, b -> b.item(3, as, i));
            }
        }
    }

    static void p44_item_outside() {
        for (int sort = 0; sort <= 4; sort++) {
            int of = sort;
            due("item(2, " + sort + ", 0)", full(sort).item(2, sort, 0), 1);
            due("item(2, " + sort + ", 39)", full(sort).item(2, sort, 39), 1);
            for (int i : beside(0, 39)) {
                refusedBy(() -> full(of), "item(2, " + sort + ", " + i + ")", OUTSIDE, b -> b.item(2, of, i));
            }
        }
        refusedBy(HostEdgesTests::ofNone, "item(2, 0, 0) of a row of none", OUTSIDE, b -> b.item(2, 0, 0));
    }

    /** "(An item may be as low as these, too.)" */
    static void p44_item_asLowAsARefusal() {
        for (int v = -15; v <= -1; v++) {
            for (int sort = 0; sort <= 3; sort++) {
                WreckBoard b = full(sort);
                b.write(2, 5, v);
                due("item(2, " + sort + ", 5)", b.item(2, sort, 5), v);
            }
        }
    }

    // ---- promise 45: "n (0 to 20) items of a SHEET taken for bytes, from item i on"

    static void p45_goAll_0To3() {
        for (int sheet : beside(0, 3)) {
            refused("goAll(" + sheet + ", 0, 1)", BAD, b -> b.goAll(sheet, 0, 1));
        }
        for (int sheet = 0; sheet <= 3; sheet++) {
            WreckBoard b = told(1);
            b.sheet(0, -1, 0);
            b.sheet(sheet, BYTES, 1);
            b.write(sheet, 0, 2);
            due("goAll(" + sheet + ", 0, 1)", b.goAll(sheet, 0, 1), 3);
            due("heard", b.state(4), 2);
        }
    }

    static void p45_goAll_n0To20() {
        for (int n : beside(0, 20)) {
            refusedBy(() -> told(new int[40]), "goAll(0, 0, " + n + ")", BAD, b -> b.goAll(0, 0, n));
            refused("goAll(3, 0, " + n + "): ahead of nothing", BAD, b -> b.goAll(3, 0, n));
            refused("goAll(1, 0, " + n + "): ahead of another sort", BAD, b -> b.goAll(1, 0, n));
        }
        for (int n = 0; n <= 20; n++) {
            WreckBoard b = told(new int[40]);
            b.ends(16);
            due("goAll(0, 0, " + n + ")", b.goAll(0, 0, n), Math.min(16, n));
            due("night", b.state(0), Math.min(16, n));
            due("score", b.state(2), Math.min(16, n));
        }
    }

    static void p45_goAll_ofAnotherSort() {
        for (int sort = SHORTS; sort <= BOOLEANS; sort++) {
            int of = sort;
            for (int n : new int[] {0, 1, 20}) {
                for (int i : new int[] {0, 40, -1, LOW, HIGH}) {
                    refusedBy(() -> full(of), "goAll(2, " + i + ", " + n + ") of sort " + sort, OTHER_SORT,
                        b -> b.goAll(2, i, n));
                    refusedBy(() -> full(of), "wouldBe(2, " + i + ", " + n + ") of sort " + sort, OTHER_SORT,
                        b -> b.wouldBe(2, i, n));
                }
            }
        }
    }

    static void p45_goAll_nothing() {
        for (int n : new int[] {0, 1, 20}) {
            for (int i : new int[] {0, 40, -1, LOW, HIGH}) {
                refused("goAll(3, " + i + ", " + n + ")", NOTHING, b -> b.goAll(3, i, n));
                refused("wouldBe(3, " + i + ", " + n + ")", NOTHING, b -> b.wouldBe(3, i, n));
            }
        }
    }

    /** "what is none, or when it is OVER, is left out" */
    static void p45_goAll_whatIsNoActIsLeftOut() {
        int[] none = {-1, 4, 127, -128, 99};
        for (int act : none) {
            WreckBoard b = told(act);
            due("goAll of " + act, b.goAll(0, 0, 1), 0);
            due("night", b.state(0), 0);
            due("light", b.state(6), 5);
            WreckBoard between = told(1, act, 3);
            due("goAll of 1, " + act + ", 3", between.goAll(0, 0, 3), 6);
            due("night", between.state(0), 2);
            due("heard", between.state(4), 5);
        }
        for (int act = 0; act <= 3; act++) {
            WreckBoard b = told(act);
            due("goAll of " + act, b.goAll(0, 0, 1), act == 0 ? 1 : 3);
            due("night", b.state(0), 1);
            due("heard", b.state(4), act == 0 ? 0 : 1 << act - 1);
        }
    }

    static void p45_goAll_whenItIsOverIsLeftOut() {
        for (int end = 1; end <= 4; end++) {
            WreckBoard b = told(1, 2, 3);
            b.ends(end);
            due("goAll, " + end + " nights being left", b.goAll(0, 0, 3), 3 * Math.min(3, end));
            due("night", b.state(0), Math.min(3, end));
            due("heard", b.state(4), (1 << Math.min(3, end)) - 1);
        }
        asked(HostEdgesTests::over, "goAll(0, 0, 3), being over", 0, b -> b.goAll(0, 0, 3));
        refusedBy(HostEdgesTests::over, "goAll(0, 0, 4), being over", OUTSIDE, b -> b.goAll(0, 0, 4));
    }

    /** "-12: what stood ahead was done." */
    static void p45_goAll_outside() {
        WreckBoard b = told(1, 2, 3);
        due("goAll(0, 1, 3)", b.goAll(0, 1, 3), OUTSIDE);
        due("night", b.state(0), 2);
        due("heard", b.state(4), 6);
        due("score", b.state(2), 6);
        due("goAll(0, 2, 20)", b.goAll(0, 2, 20), OUTSIDE);
        due("night", b.state(0), 3);
        for (int i : new int[] {3, 4, -1, -20, 40, LOW, HIGH, HIGH - 19}) {
            for (int n : new int[] {1, 20}) {
                refusedBy(() -> told(1, 2, 3), "goAll(0, " + i + ", " + n + ")", OUTSIDE, x -> x.goAll(0, i, n));
            }
        }
        refusedBy(HostEdgesTests::ofNone, "goAll(2, 0, 1) of a row of none", OUTSIDE, x -> x.goAll(2, 0, 1));
    }

    static void p45_goAll_noneFromAnywhere() {
        for (int i : new int[] {0, 3, 4, -1, 40, LOW, HIGH}) {
            asked(() -> told(1, 2, 3), "goAll(0, " + i + ", 0)", 0, b -> b.goAll(0, i, 0));
            asked(() -> told(1, 2, 3), "wouldBe(0, " + i + ", 0)", 0, b -> b.wouldBe(0, i, 0));
        }
        due("goAll(0, 2, 1): the last one", told(1, 2, 3).goAll(0, 2, 1), 3);
        due("goAll(0, 20, 20): the last ones", told(new int[40]).goAll(0, 20, 20), 12);
        due("goAll(0, 21, 20)", told(new int[40]).goAll(0, 21, 20), OUTSIDE);
    }

    // ---- promise 46: "BAD: no such SHEET, n; -13; -11; then, by items, -12; STATE: one is no ACT, or it would be OVER
    // ---- ahead of it."

    static void p46_wouldBe_badSheetOrN() {
        for (int sheet : beside(0, 3)) {
            refused("wouldBe(" + sheet + ", 0, 1)", BAD, b -> b.wouldBe(sheet, 0, 1));
        }
        for (int n : beside(0, 20)) {
            refused("wouldBe(0, 0, " + n + ")", BAD, b -> b.wouldBe(0, 0, n));
            refused("wouldBe(3, 0, " + n + "): ahead of nothing", BAD, b -> b.wouldBe(3, 0, n));
            refused("wouldBe(1, 0, " + n + "): ahead of another sort", BAD, b -> b.wouldBe(1, 0, n));
        }
    }

    static void p46_wouldBe_each() {
        for (int sheet = 0; sheet <= 3; sheet++) {
            WreckBoard b = told(0);
            b.sheet(sheet, BYTES, 40);
            b.write(sheet, 0, 3);
            b.ends(16);
            for (int n = 0; n <= 20; n++) {
                due("wouldBe(" + sheet + ", 0, " + n + ")", b.wouldBe(sheet, 0, n),
                    n == 0 ? 0 : n <= 16 ? n + 2 : STATE);
            }
        }
    }

    static void p46_wouldBe_outside() {
        for (int i : new int[] {3, 4, -1, -20, 40, LOW, HIGH, HIGH - 19}) {
            for (int n : new int[] {1, 20}) {
                refusedBy(() -> told(1, 2, 3), "wouldBe(0, " + i + ", " + n + ")", OUTSIDE, b -> b.wouldBe(0, i, n));
            }
        }
        refusedBy(() -> told(1, 2, 3), "wouldBe(0, 1, 3)", OUTSIDE, b -> b.wouldBe(0, 1, 3));
        due("wouldBe(0, 1, 2)", told(1, 2, 3).wouldBe(0, 1, 2), 6);
        refusedBy(HostEdgesTests::ofNone, "wouldBe(2, 0, 1) of a row of none", OUTSIDE, b -> b.wouldBe(2, 0, 1));
    }

    static void p46_wouldBe_noAct() {
        for (int act : new int[] {-1, 4, 127, -128}) {
            refusedBy(() -> told(act), "wouldBe of " + act, STATE, b -> b.wouldBe(0, 0, 1));
            refusedBy(() -> told(1, 2, act), "wouldBe of 1, 2, " + act, STATE, b -> b.wouldBe(0, 0, 3));
            due("what stands ahead of it", told(1, 2, act).wouldBe(0, 0, 2), 6);
        }
        for (int act = 0; act <= 3; act++) {
            due("wouldBe of " + act, told(act).wouldBe(0, 0, 1), act == 0 ? 1 : 3);
        }
    }

    static void p46_wouldBe_overAheadOfIt() {
        asked(HostEdgesTests::over, "wouldBe(0, 0, 0), being over", 0, b -> b.wouldBe(0, 0, 0));
        refusedBy(HostEdgesTests::over, "wouldBe(0, 0, 1), being over", STATE, b -> b.wouldBe(0, 0, 1));
        WreckBoard b = told(1, 2, 3);
        b.ends(2);
        due("wouldBe(0, 0, 2), 2 nights being left", b.wouldBe(0, 0, 2), 6);
        due("wouldBe(0, 0, 3), 2 nights being left", b.wouldBe(0, 0, 3), STATE);
    }

    /** "then, by items": the first item that is refused says why. */
    static void p46_wouldBe_byItems() {
        due("no act, then outside", told(1, 4).wouldBe(0, 0, 3), STATE);
        due("outside at once", told(4, 4).wouldBe(0, -1, 3), OUTSIDE);
        due("good ones, then outside", told(1, 2).wouldBe(0, 0, 3), OUTSIDE);
        WreckBoard b = told(1, 2);
        b.ends(2);
        due("over, and outside", b.wouldBe(0, 0, 3), OUTSIDE);
        due("over, then outside", b.wouldBe(0, 1, 2), OUTSIDE);
        b.ends(1);
        due("over ahead of the second, then outside", b.wouldBe(0, 0, 3), STATE);
    }

    // ---- promise 47: "BAD: no such SHELF, what, thing."

    static void p47_shelf_0To3() {
        bounds("shelf(.., 0, 1)", 0, 3, (b, v) -> b.shelf(v, 0, 1));
        bounds("shelf(.., 1, 1)", 0, 3, (b, v) -> b.shelf(v, 1, 1));
        bounds("shelf(.., 2, 1)", 0, 3, (b, v) -> b.shelf(v, 2, 1));
    }

    static void p47_shelf_what0To2() {
        bounds("shelf(0, .., 1)", 0, 2, (b, v) -> b.shelf(0, v, 1));
    }

    static void p47_shelf_members() {
        bounds("shelf(0, 0, ..)", 0, 4, (b, v) -> b.shelf(0, 0, v));
        refusedBy(WreckBoard::new, "shelf(0, 0, 0) of none", BAD, b -> b.shelf(0, 0, 0));
        for (int k = 0; k < 5; k++) {
            WreckBoard b = rich();
            due("shelf(3, 0, " + k + ")", b.shelf(3, 0, k), 1);
            due("taken(3, 0)", b.taken(3, 0), k);
        }
    }

    static void p47_shelf_sheets() {
        bounds("shelf(0, 1, ..)", 0, 3, (b, v) -> b.shelf(0, 1, v));
        int[] sorts = {10, 13, 14};
        int[] sizes = {3, 2, 1};
        for (int sheet = 0; sheet < 3; sheet++) {
            WreckBoard b = rich();
            due("shelf(3, 1, " + sheet + ")", b.shelf(3, 1, sheet), 1);
            due("taken", b.taken(3, sorts[sheet]), sizes[sheet]);
        }
    }

    /** "nothing, if missing" */
    static void p47_shelf_ofAMissingSheet() {
        WreckBoard b = rich();
        due("shelf(0, 1, 3)", b.shelf(0, 1, 3), 1);
        due("taken(0, 0)", b.taken(0, 0), NOTHING);
        due("taken(0, 10)", b.taken(0, 10), NOTHING);
        b.sheet(3, BYTES, 7);
        due("taken(0, 10), there being one now", b.taken(0, 10), NOTHING);
    }

    static void p47_shelf_nothingWhateverN() {
        for (int n : new int[] {0, -1, 77, LOW, HIGH}) {
            for (int shelf = 0; shelf <= 3; shelf++) {
                WreckBoard b = rich();
                due("shelf(" + shelf + ", 2, " + n + ")", b.shelf(shelf, 2, n), 1);
                due("taken(" + shelf + ", 0)", b.taken(shelf, 0), NOTHING);
                due("taken(" + shelf + ", 10)", b.taken(shelf, 10), NOTHING);
            }
        }
    }

    static void p47_shelf_theRowStays() {
        WreckBoard b = full(LONGS);
        b.shelf(1, 1, 2);
        b.sheet(2, BYTES, 3);
        due("taken(1, 13)", b.taken(1, 13), 40);
        due("taken(1, 10)", b.taken(1, 10), OTHER_SORT);
        b.sheet(2, -1, 0);
        due("taken(1, 13)", b.taken(1, 13), 40);
    }

    // ---- promise 48: "taken for a thing of KIND as (0 to 5, or one under it): its number; for a row of sort as - 10
    // ---- (as 10 to 14): how many items. BAD: no such SHELF, as; -13; -11."

    static void p48_taken_badShelfOrAs() {
        for (int shelf : beside(0, 3)) {
            refused("taken(" + shelf + ", 0)", BAD, b -> b.taken(shelf, 0));
        }
        for (int shelf = 0; shelf <= 3; shelf++) {
            int at = shelf;
            for (int as : new int[] {-1, 6, 9, 15, LOW, HIGH}) {
                refused("taken(" + shelf + ", " + as + ")", BAD, b -> b.taken(at, as));
            }
        }
    }

    static void p48_taken_itsKindOrOneAbove() {
        String[] is = {"", "01", "02", "023", "04", "045"};
        for (int kind = 1; kind <= 5; kind++) {
            WreckBoard b = rich();
            b.remake(2, kind);
            for (int as = 0; as <= 5; as++) {
                boolean may = is[kind].indexOf('0' + as) >= 0;
                due("kind " + kind + " taken for " + as, b.taken(0, as), may ? 2 : OTHER_SORT);
            }
            for (int as = 10; as <= 14; as++) {
                due("kind " + kind + " taken for " + as, b.taken(0, as), OTHER_SORT);
            }
        }
    }

    static void p48_taken_rows() {
        for (int sort = 0; sort <= 4; sort++) {
            for (int n : new int[] {0, 1, 40}) {
                WreckBoard b = new WreckBoard();
                b.sheet(1, sort, n);
                b.shelf(3, 1, 1);
                for (int as = 0; as <= 14; as++) {
                    int want = as > 5 && as < 10 ? BAD : as == 10 + sort ? n : OTHER_SORT;
                    due("a row of " + n + " of sort " + sort + " taken for " + as, b.taken(3, as), want);
                }
            }
        }
    }

    /** "(by its number; nothing, if there is no such one at the time)" */
    static void p48_taken_noSuchMemberAtTheTime() {
        WreckBoard b = new WreckBoard();
        b.member(WRECKER, 1, 1, 4);
        b.keep();
        b.member(SAVER, 1, 1, 4);
        b.shelf(2, 0, 1);
        b.shelf(3, 0, 0);
        b.again();
        due("taken(2, 0)", b.taken(2, 0), NOTHING);
        due("taken(2, 2)", b.taken(2, SAVER), NOTHING);
        due("taken(2, 10)", b.taken(2, 10), NOTHING);
        due("taken(2, 6)", b.taken(2, 6), BAD);
        due("taken(3, 1)", b.taken(3, WRECKER), 0);
        b.act(3, 0, 5);
        due("act(2, 0, 5)", b.act(2, 0, 5), 0);
        due("no trace then", b.many(6), 0);
        b.member(FARMER, 1, 1, 4);
        due("taken(2, 4), there being one again", b.taken(2, FARMER), 1);
        due("taken(2, 2)", b.taken(2, SAVER), OTHER_SORT);
    }

    // ---- promise 49: "0, and no TRACE then: no such SHELF, act, nothing, a row."

    private static void noTrace(String call, Call asked) {
        WreckBoard b = rich();
        due("bodies ahead", b.many(6), 5);
        due(call, asked.on(b), 0);
        due("bodies behind " + call, b.many(6), 0);
        due("trace(0) behind " + call, b.trace(0), NONE);
    }

    static void p49_act_noSuchShelf() {
        for (int shelf : beside(0, 3)) {
            noTrace("act(" + shelf + ", 0, 7)", b -> b.act(shelf, 0, 7));
        }
    }

    static void p49_act_noSuchAct() {
        for (int act : beside(0, 3)) {
            noTrace("act(0, " + act + ", 7)", b -> b.act(0, act, 7));
        }
    }

    static void p49_act_nothingOrARow() {
        for (int act = 0; act <= 3; act++) {
            int done = act;
            noTrace("act(1, " + act + ", 7)", b -> b.act(1, done, 7));
            noTrace("act(3, " + act + ", 7)", b -> b.act(3, done, 7));
        }
    }

    /** A member of a kind with a number on a bench does so: its answer, and the bodies that ran. */
    private static void does(int kind, int number, int bench, int act, int x, int want, int... bodies) {
        WreckBoard b = new WreckBoard();
        for (int k = 0; k < number; k++) {
            b.member(WRECKER, 1, 1, 0);
        }
        b.member(kind, 1, 1, bench);
        b.shelf(3, 0, number);
        String call = "act " + act + " with " + x + " of kind " + kind + ", number " + number + ", bench " + bench;
        due(call, b.act(3, act, x), want);
        due("bodies of " + call, b.many(6), bodies.length);
        for (int i = 0; i < bodies.length; i++) {
            due("body " + i + " of " + call, b.trace(i), bodies[i]);
        }
        due("no more of " + call, b.trace(bodies.length), NONE);
    }

    /** "-15 if that is 0; that is all that act() answers then" */
    static void p49_act_partedBy0() {
        int[][] zeros = {{0, 4}, {1, 3}, {2, 2}, {3, 1}, {4, 0}};
        for (int[] zero : zeros) {
            for (int x : new int[] {0, 7, -7, LOW, HIGH}) {
                does(WRECKER, zero[0], zero[1], 2, x, PARTED_BY_0, 12);
                does(WRECKER, zero[0], zero[1], 3, x, PARTED_BY_0, 13, 11, 20, 10, 12);
                does(SAVER, zero[0], zero[1], 3, x, PARTED_BY_0, 13, 30, 11, 10, 12);
                does(CHAIR, zero[0], zero[1], 3, x, PARTED_BY_0, 51, 13, 30, 11, 50, 10, 12);
                does(FARMER, zero[0], zero[1], 2, x, PARTED_BY_0, 40, 12);
                does(LAD, zero[0], zero[1], 2, x, PARTED_BY_0, 61, 40, 12);
                does(LAD, zero[0], zero[1], 3, x, PARTED_BY_0, 13, 60, 11, 10, 61, 40, 12);
            }
            does(SAVER, zero[0], zero[1], 0, 3, 6 - zero[0], 10);
            does(SAVER, zero[0], zero[1], 1, 3, 2 * (6 - zero[0] + 3 * zero[1]), 30, 11, 10);
        }
    }

    static void p49_act_partedBy0Once() {
        WreckBoard b = new WreckBoard();
        b.member(FARMER, 1, 1, 4);
        b.shelf(0, 0, 0);
        due("act(0, 2, 7)", b.act(0, 2, 7), PARTED_BY_0);
        b.change(0, 3, 5);
        due("act(0, 2, 7) on bench 5", b.act(0, 2, 7), 1);
        due("bodies", b.many(6), 2);
        due("trace(0)", b.trace(0), 40);
    }

    /** "what x leaves by (n + a - 4), below 0 if x is" */
    static void p49_act_whatXLeaves() {
        for (int number = 0; number <= 5; number++) {
            for (int bench = 0; bench <= 5; bench++) {
                int by = Math.abs(number + bench - 4);
                for (int x : new int[] {0, 1, 5, 7, 11, HIGH}) {
                    if (by != 0) {
                        int left = x;
                        left -= left / by * by;
                        does(SAVER, number, bench, 2, x, left, 12);
                        does(SAVER, number, bench, 2, -x, -left, 12);
                    }
                }
            }
        }
        // -2147483648 by 1 and -1, 2, 3, 4, 5, 6.
        does(SAVER, 1, 2, 2, LOW, 0, 12);
        does(SAVER, 0, 5, 2, LOW, 0, 12);
        does(SAVER, 0, 2, 2, LOW, 0, 12);
        does(SAVER, 5, 2, 2, LOW, -2, 12);
        does(SAVER, 0, 0, 2, LOW, 0, 12);
        does(SAVER, 4, 5, 2, LOW, -3, 12);
        does(SAVER, 5, 5, 2, LOW, -2, 12);
    }

    /** "(ints that wrap)" */
    static void p49_act_wraps() {
        does(SAVER, 0, 0, 0, HIGH, -2, 10);
        does(SAVER, 0, 0, 0, LOW, 0, 10);
        does(SAVER, 5, 0, 0, LOW, -5, 10);
        does(SAVER, 5, 0, 0, 1 << 30, LOW - 5, 10);
        does(WRECKER, 5, 0, 0, 1 << 30, HIGH - 4 ^ 6, 20, 10);
        does(SAVER, 0, 5, 1, 1 << 29, (1 << 30) + 15 << 1, 30, 11, 10);
        does(FARMER, 0, 5, 1, (1 << 30) - 1, LOW + 13, 11, 10);
        does(CHAIR, 0, 0, 0, LOW + 8, -2, 50, 10);
        does(LAD, 0, 0, 1, 1 << 30, LOW, 60, 11, 10);
        does(LAD, 5, 0, 1, 1 << 30, LOW + 5, 60, 11, 10);
        // moves of HIGH: -2 - 1; that, and 15; less what HIGH leaves by 2, 1.
        does(WRECKER, 1, 5, 3, HIGH, (-3 ^ 6) + 15 - 1, 13, 11, 20, 10, 12);
    }

    static void p49_act_eachBody() {
        // Number 5, bench 3; 7 leaves 3 by 4.
        does(WRECKER, 5, 3, 0, 7, 9 ^ 6, 20, 10);
        does(WRECKER, 5, 3, 1, 7, (9 ^ 6) + 9, 11, 20, 10);
        does(WRECKER, 5, 3, 2, 7, 3, 12);
        does(WRECKER, 5, 3, 3, 7, (9 ^ 6) + 9 - 3, 13, 11, 20, 10, 12);
        does(SAVER, 5, 3, 0, 7, 9, 10);
        does(SAVER, 5, 3, 1, 7, 36, 30, 11, 10);
        does(SAVER, 5, 3, 2, 7, 3, 12);
        does(SAVER, 5, 3, 3, 7, 33, 13, 30, 11, 10, 12);
        does(CHAIR, 5, 3, 0, 7, -9, 50, 10);
        does(CHAIR, 5, 3, 1, 7, 0, 30, 11, 50, 10);
        does(CHAIR, 5, 3, 1, 8, 4, 30, 11, 50, 10);
        does(CHAIR, 5, 3, 2, 7, 3, 12);
        // Seconds of 3: (3 - 9) * 2 - 5 + 9, twice.
        does(CHAIR, 5, 3, 3, 7, -3 - 16, 51, 13, 30, 11, 50, 10, 12, 30, 11, 50, 10);
        does(FARMER, 5, 3, 0, 7, 9, 10);
        does(FARMER, 5, 3, 1, 7, 18, 11, 10);
        does(FARMER, 5, 3, 2, 7, 4, 40, 12);
        does(FARMER, 5, 3, 3, 7, 14, 13, 11, 10, 40, 12);
        does(LAD, 5, 3, 0, 7, 9, 10);
        does(LAD, 5, 3, 1, 7, -18, 60, 11, 10);
        // Moves of 5: 5.
        does(LAD, 5, 3, 2, 7, 4 ^ 5, 61, 40, 12, 10);
        does(LAD, 5, 3, 3, 7, -18 - (4 ^ 5), 13, 60, 11, 10, 61, 40, 12, 10);
    }

    static void p49_act_changesTheTraceAlone() {
        WreckBoard b = rich();
        due("act(0, 2, 9)", b.act(0, 2, 9) == BAD ? 1 : 0, 0);
        due("act(0, 3, 7), as ahead", b.act(0, 3, 7) == BAD ? 1 : 0, 0);
        same("behind acts", allOf(b), allOf(rich()));
    }

    // ---- promise 50: "THE TRACE's i-th body. NONE."

    static void p50_trace_asManyAsRan() {
        int[] want = {13, 11, 10, 40, 12};
        for (int i = 0; i < 5; i++) {
            due("trace(" + i + ")", rich().trace(i), want[i]);
        }
        for (int i : new int[] {-1, 5, 6, 29, 30, 31, LOW, HIGH}) {
            refused("trace(" + i + ")", NONE, b -> b.trace(i));
        }
        refusedBy(WreckBoard::new, "trace(0) at first", NONE, b -> b.trace(0));
    }

    static void p50_trace_ofTheLatestAct() {
        WreckBoard b = rich();
        b.act(0, 0, 7);
        due("many(6)", b.many(6), 1);
        due("trace(0)", b.trace(0), 10);
        due("trace(1)", b.trace(1), NONE);
        // The longest there is.
        b.remake(2, CHAIR);
        b.act(0, 3, 7);
        due("many(6)", b.many(6), 11);
        due("trace(10)", b.trace(10), 10);
        due("trace(11)", b.trace(11), NONE);
    }

    // ---- promise 51: "BAD: another what."

    static void p51_many_what0To6() {
        bounds("many(..)", 0, 6, (b, v) -> b.many(v));
        int[] want = {5, 3, 3, 3, 3, 19, 5};
        for (int what = 0; what <= 6; what++) {
            due("many(" + what + ")", rich().many(what), want[what]);
            due("many(" + what + ") at first", new WreckBoard().many(what), 0);
        }
    }

    static void p51_many_atMost() {
        WreckBoard b = new WreckBoard();
        for (int k = 0; k < 6; k++) {
            b.member(CHAIR, 1, 1, 1);
            b.change(k, 4, 1);
            b.report(0, 0, 0, 9);
        }
        tell(b, "lad dim;".repeat(8));
        feed(b, " ".repeat(200));
        b.prove(4);
        b.shelf(0, 0, 5);
        b.act(0, 3, 7);
        int[] want = {6, 8, 6, 6, 4, 200, 11};
        for (int what = 0; what <= 6; what++) {
            due("many(" + what + ")", b.many(what), want[what]);
        }
    }

    // ---- promise 52: "All but THE TAPE, ROWS, SHEETS, SHELVES, THE TRACE is kept: 1."

    private static boolean isKept(String asked) {
        return asked.startsWith("kept: ");
    }

    static void p52_keep_changesWhatIsKeptAlone() {
        WreckBoard b = rich();
        due("keep()", b.keep(), 1);
        Map<String, Integer> got = allOf(b);
        Map<String, Integer> want = allOf(rich());
        got.keySet().removeIf(asked -> isKept(asked) || asked.equals("again()"));
        want.keySet().removeIf(asked -> isKept(asked) || asked.equals("again()"));
        same("behind keep()", got, want);
    }

    static void p52_keep_all() {
        WreckBoard b = rich();
        b.keep();
        // All is otherwise then.
        b.anew();
        b.night();
        tell(b, "member keep;");
        b.forget();
        for (int r = 0; r < 6; r++) {
            b.report(r, 1, r, 2 * r);
        }
        b.seed(99);
        b.ends(16);
        allShips(b, 15);
        b.member(LAD, 9, 9, 5);
        for (int k = 0; k < 6; k++) {
            b.remake(k, k % 2 == 0 ? SAVER : WRECKER);
            b.change(k, 1, 8);
            b.change(k, 2, 8);
            b.change(k, 3, 5);
            b.change(k, 4, 1);
            b.bench(k, 0, 3);
            b.bench(k, 1, 3);
        }
        due("again()", b.again(), 5);
        feed(b, RICH_TAPE);
        Map<String, Integer> got = allOf(b);
        Map<String, Integer> want = allOf(rich());
        got.keySet().removeIf(asked -> isKept(asked) || asked.equals("again()"));
        want.keySet().removeIf(asked -> isKept(asked) || asked.equals("again()"));
        same("behind again()", got, want);
    }

    static void p52_keep_theLatest() {
        WreckBoard b = new WreckBoard();
        for (int many = 0; many <= 6; many++) {
            due("keep()", b.keep(), 1);
            b.member(WRECKER, 1, 1, 1);
            due("again()", b.again(), many);
            due("many(0)", b.many(0), many);
            b.member(WRECKER, 1, 1, 1);
        }
    }

    // ---- promise 53: "It becomes what was kept latest (which stays): how many MEMBERS. NONE: nothing is kept."

    static void p53_again_nothingIsKept() {
        refusedBy(() -> told(1, 2, 3), "again()", NONE, b -> b.again());
    }

    static void p53_again_ofNoMembers() {
        WreckBoard b = new WreckBoard();
        b.keep();
        b.member(WRECKER, 1, 1, 1);
        due("again()", b.again(), 0);
        due("many(0)", b.many(0), 0);
        due("memberOf(0, 0)", b.memberOf(0, 0), BAD);
        due("again()", b.again(), 0);
    }

    static void p53_again_itStays() {
        WreckBoard b = rich();
        for (int i = 0; i < 3; i++) {
            due("again()", b.again(), 4);
            due("night", b.state(0), 1);
            b.night();
            b.member(LAD, 9, 9, 5);
            b.change(0, 1, 0);
            b.bench(0, 0, i);
            b.ship(2, i);
            tell(b, "lad dim;");
            b.report(0, 1, 1, 1);
        }
        due("again()", b.again(), 4);
        WreckBoard other = rich();
        other.again();
        // Its tape was read ahead.
        feed(b, RICH_TAPE);
        same("behind again()", allOf(b), allOf(other));
    }

    /** "All but THE TAPE, ROWS, SHEETS, SHELVES, THE TRACE" */
    static void p53_again_theOthersStay() {
        WreckBoard b = rich();
        b.again();
        due("bytes", b.many(5), 19);
        due("rows", b.many(4), 3);
        due("row(1, 1)", b.row(1, 1), -77);
        due("bodies", b.many(6), 5);
        due("trace(0)", b.trace(0), 13);
        due("item(0, 0, 1)", b.item(0, BYTES, 1), 4);
        due("item(1, 3, 1)", b.item(1, LONGS, 1), 70000);
        due("taken(0, 4)", b.taken(0, FARMER), 2);
        due("taken(1, 10)", b.taken(1, 10), 3);
        due("rules(), of the tape", b.rules(), -119);
    }
}
