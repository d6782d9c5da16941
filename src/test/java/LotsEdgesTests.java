/** Edges of REPORTS, LOTS and ROWS: part 3 of the Terms, promises 31 to 41. */
public final class LotsEdgesTests extends Checks {
    public static void main(String[] args) throws IllegalAccessException {
        runAll(LotsEdgesTests.class);
    }

    private static WreckBoard sixReports() {
        WreckBoard b = rich();
        b.report(0, 0, 0, 9);
        b.report(1, 1, 0, 999);
        b.report(2, 0, 1, 8);
        return b;
    }

    private static WreckBoard carriers(int many) {
        WreckBoard b = new WreckBoard();
        for (int k = 0; k < many; k++) {
            b.member(WRECKER, 4, 1, 0);
        }
        allShips(b, 0);
        return b;
    }

    private static WreckBoard over() {
        WreckBoard b = rich();
        b.ends(3);
        return b;
    }

    /** No ship has a value. */
    private static WreckBoard noShips() {
        WreckBoard b = new WreckBoard();
        allShips(b, 0);
        return b;
    }

    private static int nextZ(int z) {
        return z * 1103515245 + 12345;
    }

    // ---- promise 31: "(6 at most): behind k NIGHTS (0 to 15; ..) LIGHT (asked 0; 0 to 9), or the FUND (1; 0 to 999)"

    static void p31_report_k0To15() {
        bounds("report(.., 0, 1, 1)", 0, 15, (b, v) -> b.report(v, 0, 1, 1));
    }

    static void p31_report_asked0To1() {
        bounds("report(1, .., 1, 1)", 0, 1, (b, v) -> b.report(1, v, 1, 1));
    }

    static void p31_report_light0To9() {
        bounds("report(1, 0, .., 9)", 0, 9, (b, v) -> b.report(1, 0, v, 9));
        bounds("report(1, 0, 0, ..)", 0, 9, (b, v) -> b.report(1, 0, 0, v));
        bounds("report(1, 0, .., the same)", 0, 9, (b, v) -> b.report(1, 0, v, v));
    }

    static void p31_report_fund0To999() {
        bounds("report(1, 1, .., 999)", 0, 999, (b, v) -> b.report(1, 1, v, 999));
        bounds("report(1, 1, 0, ..)", 0, 999, (b, v) -> b.report(1, 1, 0, v));
        bounds("report(1, 1, .., the same)", 0, 999, (b, v) -> b.report(1, 1, v, v));
    }

    static void p31_report_mostBelowLeast() {
        refused("report(1, 0, 5, 4)", BAD, b -> b.report(1, 0, 5, 4));
        refused("report(1, 0, 9, 0)", BAD, b -> b.report(1, 0, 9, 0));
        refused("report(1, 1, 1, 0)", BAD, b -> b.report(1, 1, 1, 0));
        refused("report(1, 1, 999, 998)", BAD, b -> b.report(1, 1, 999, 998));
        due("report(1, 0, 5, 5)", new WreckBoard().report(1, 0, 5, 5), 0);
        due("report(1, 1, 999, 999)", new WreckBoard().report(1, 1, 999, 999), 0);
    }

    static void p31_report_6AtMost() {
        WreckBoard b = new WreckBoard();
        for (int r = 0; r < 6; r++) {
            due("report", b.report(r, 0, 0, 9), r);
            due("many(3)", b.many(3), r + 1);
        }
        due("the seventh", b.report(0, 0, 0, 9), FULL);
        due("many(3)", b.many(3), 6);
    }

    static void p31_report_full() {
        refusedBy(LotsEdgesTests::sixReports, "the seventh", FULL, b -> b.report(0, 0, 0, 0));
        refusedBy(LotsEdgesTests::sixReports, "the seventh", FULL, b -> b.report(15, 1, 999, 999));
    }

    static void p31_report_badAheadOfFull() {
        refusedBy(LotsEdgesTests::sixReports, "k 16", BAD, b -> b.report(16, 0, 0, 0));
        refusedBy(LotsEdgesTests::sixReports, "asked 2", BAD, b -> b.report(0, 2, 0, 0));
        refusedBy(LotsEdgesTests::sixReports, "least -1", BAD, b -> b.report(0, 0, -1, 0));
        refusedBy(LotsEdgesTests::sixReports, "most 10", BAD, b -> b.report(0, 0, 0, 10));
        refusedBy(LotsEdgesTests::sixReports, "most below least", BAD, b -> b.report(0, 0, 1, 0));
    }

    // ---- promise 32: "There are no REPORTS: how many there were."

    static void p32_forget_noneAndAll() {
        WreckBoard b = new WreckBoard();
        due("forget() of none", b.forget(), 0);
        for (int r = 0; r < 6; r++) {
            b.report(0, 1, 1, 1);
        }
        due("forget() of six", b.forget(), 6);
        due("many(3)", b.many(3), 0);
        due("lone(0)", b.lone(0), 500);
        due("liar()", b.liar(), NONE);
        due("forget()", b.forget(), 0);
        due("report", b.report(0, 0, 3, 3), 0);
        due("lone(0)", b.lone(0), 50);
    }

    // ---- promise 33: "A LONE MEMBER is a KIND (1 to 5; its number 0), GREED, and LIGHT at first"

    static void p33_lone_what0To3() {
        bounds("lone(..)", 0, 3, (b, v) -> b.lone(v));
    }

    static void p33_lone_allThereAre() {
        WreckBoard b = new WreckBoard();
        due("lone(0)", b.lone(0), 500);
        due("lone(1)", b.lone(1), WRECKER);
        due("lone(2)", b.lone(2), 0);
        due("lone(3)", b.lone(3), 0);
        for (int light = 0; light <= 9; light++) {
            b.forget();
            b.report(0, 0, light, light);
            due("lone(0) by light " + light, b.lone(0), 50);
            due("lone(3) by light " + light, b.lone(3), light);
        }
    }

    static void p33_lone_noneFits() {
        asked(LotsEdgesTests::noneFits, "lone(0)", 0, x -> x.lone(0));
        for (int what = 1; what <= 3; what++) {
            int asked = what;
            asked(LotsEdgesTests::noneFits, "lone(" + what + ")", NONE, x -> x.lone(asked));
        }
        for (int what : beside(0, 3)) {
            refusedBy(LotsEdgesTests::noneFits, "lone(" + what + ")", BAD, x -> x.lone(what));
        }
    }

    /** The FUND is 0 at first, for everyone. */
    private static WreckBoard noneFits() {
        WreckBoard b = rich();
        b.report(0, 1, 1, 999);
        return b;
    }

    /** "was from LEAST to MOST" */
    static void p33_lone_fromLeastToMost() {
        for (int least = 0; least <= 9; least++) {
            for (int most = least; most <= 9; most++) {
                WreckBoard b = new WreckBoard();
                b.report(0, 0, least, most);
                due("lone(0) from " + least + " to " + most, b.lone(0), 50 * (most - least + 1));
            }
        }
        // A ship is lost for 15 by who has light below 3 then: wreckers and farmers from 4 down, the others from 0.
        int[][] reports = {{0, 15, 500}, {15, 15, 130}, {14, 15, 130}, {15, 16, 130}, {16, 999, 0}, {1, 14, 0}};
        for (int[] report : reports) {
            WreckBoard b = noShips();
            b.ship(0, 13);
            b.report(1, 1, report[0], report[1]);
            due("lone(0), the fund from " + report[0] + " to " + report[1], b.lone(0), report[2]);
        }
    }

    /** "LIGHT is 2 less, if it LEANS to the dark .., 2 more, if to the light (0 to 9 held); then .. (3)" */
    static void p33_lone_lightHeld() {
        // To the dark wreckers and lads, to the light the others; see how each light is behind a night.
        int[] want = {0, 60, 20, 50, 50, 150, 50, 30, 90, 0};
        for (int light = 0; light <= 9; light++) {
            WreckBoard b = noShips();
            b.report(1, 0, light, light);
            due("lone(0), light " + light + " behind a night", b.lone(0), want[light]);
        }
        WreckBoard low = noShips();
        low.report(0, 0, 0, 0);
        low.report(1, 0, 1, 1);
        due("lone(0): 0, held, then 1", low.lone(0), 20);
        WreckBoard high = noShips();
        high.report(0, 0, 9, 9);
        high.report(1, 0, 8, 8);
        due("lone(0): 9, held, then 8", high.lone(0), 30);
    }

    /** "behind k NIGHTS" */
    static void p33_lone_behindKNights() {
        for (int k = 1; k <= 15; k++) {
            WreckBoard b = noShips();
            b.ship(k - 1, 15);
            b.report(k - 1, 1, 0, 0);
            due("lone(0) behind " + (k - 1) + " nights", b.lone(0), 500);
            b.report(k, 1, 15, 15);
            due("some fit behind " + k + " nights", b.lone(0) > 0 ? 1 : 0, 1);
        }
        WreckBoard last = noShips();
        last.ship(15, 15);
        last.report(15, 1, 0, 0);
        due("lone(0): night 15 is behind them all", last.lone(0), 500);
    }

    /** The FUND is what all ships brought. */
    static void p33_lone_theFundOfAllNights() {
        WreckBoard b = noShips();
        b.ship(0, 5);
        b.ship(2, 13);
        b.ship(4, 9);
        b.report(0, 0, 0, 0);
        b.report(5, 1, 30, 30);
        // Wreckers keep it dark: 5 and 15 and 10.
        due("lone(1)", b.lone(1), WRECKER);
        due("lone(3)", b.lone(3), 0);
        b.report(4, 1, 20, 20);
        b.report(2, 1, 5, 5);
        due("lone(1)", b.lone(1), WRECKER);
        b.report(1, 1, 6, 999);
        due("lone(0)", b.lone(0), 0);
        due("liar()", b.liar(), 4);
    }

    /** "from NIGHT 0 on, FUND 0 then", "no ZEAL", "by SHIPS as they are" */
    static void p33_lone_notAsAllIsNow() {
        WreckBoard b = noShips();
        b.report(0, 1, 0, 0);
        b.report(1, 0, 8, 8);
        due("lone(0)", b.lone(0), 90);
        b.rock(0, 1);
        b.rock(1, 900);
        for (int f = 0; f < 6; f++) {
            b.bench(f, 1, 9);
            b.bench(f, 0, 9);
        }
        b.member(WRECKER, 9, 9, 0);
        tell(b, "member trim;");
        b.ends(1);
        b.night();
        due("lone(0), whatever is now", b.lone(0), 90);
        b.ship(0, 12);
        due("lone(0), the ship being worth 3: savers, chairs and lads", b.lone(0), 90);
        b.ship(0, 8);
        due("lone(0), she being worth 2: lads and farmers without greed do nothing", b.lone(0), 30 + 30 + 1 + 27 + 1);
    }

    /** "chair: as saver, but 0 in odd NIGHTS" */
    static void p33_lone_chairsInOddNights() {
        WreckBoard b = noShips();
        b.report(0, 0, 5, 5);
        b.report(1, 0, 6, 6);
        due("lone(0): savers, chairs, farmers: 5, 7, 6", b.lone(0), 30);
        b.report(2, 0, 5, 5);
        due("lone(0): chairs: 6, 5", b.lone(0), 10);
        due("lone(1)", b.lone(1), CHAIR);
    }

    /** "of that with the least KIND, of these the least GREED, of these the least LIGHT" */
    static void p33_lone_theLeastKindThenGreedThenLight() {
        WreckBoard b = noShips();
        b.ship(0, 8);
        b.report(1, 0, 6, 6);
        // To the light from 5, to neither side from 7, to the dark from 9.
        due("lone(1)", b.lone(1), WRECKER);
        due("lone(2)", b.lone(2), 0);
        due("lone(3)", b.lone(3), 9);
        b.report(0, 0, 0, 8);
        due("lone(1)", b.lone(1), SAVER);
        due("lone(2)", b.lone(2), 0);
        due("lone(3)", b.lone(3), 5);
        b.report(0, 0, 6, 8);
        due("lone(0): a farmer and a lad without greed", b.lone(0), 2);
        due("lone(1)", b.lone(1), FARMER);
        due("lone(2)", b.lone(2), 0);
        due("lone(3)", b.lone(3), 7);
        b.forget();
        b.report(0, 0, 8, 9);
        b.report(1, 0, 5, 6);
        // In night 1 they trim: farmers with greed, from 8 and 9.
        b.report(2, 0, 6, 7);
        due("lone(0)", b.lone(0), 18);
        due("lone(1)", b.lone(1), FARMER);
        due("lone(2)", b.lone(2), 1);
        due("lone(3)", b.lone(3), 8);
    }

    // ---- promise 34: "LIAR: if none FITS, the least REPORT but for which some would."; "NONE: some FIT; or there is
    // ---- no such REPORT."

    static void p34_liar_noReports() {
        asked(WreckBoard::new, "liar()", NONE, b -> b.liar());
    }

    static void p34_liar_someFit() {
        asked(Checks::rich, "liar()", NONE, b -> b.liar());
        WreckBoard b = new WreckBoard();
        b.report(0, 0, 9, 9);
        due("liar()", b.liar(), NONE);
    }

    static void p34_liar_theOnlyReport() {
        WreckBoard b = new WreckBoard();
        b.report(0, 1, 1, 1);
        due("liar()", b.liar(), 0);
        b.report(0, 1, 2, 2);
        due("liar(), two being wrong at once", b.liar(), NONE);
        b.forget();
        due("liar(), none being told", b.liar(), NONE);
    }

    static void p34_liar_eachOfSix() {
        for (int liar = 0; liar < 6; liar++) {
            WreckBoard b = new WreckBoard();
            for (int r = 0; r < 6; r++) {
                b.report(0, 0, r == liar ? 7 : 2, r == liar ? 7 : 2);
            }
            due("lone(0)", b.lone(0), 0);
            due("liar()", b.liar(), liar);
        }
    }

    static void p34_liar_theLeastOfSeveral() {
        WreckBoard b = new WreckBoard();
        b.report(0, 0, 2, 5);
        b.report(0, 0, 6, 6);
        b.report(0, 0, 5, 5);
        due("liar(): 1 alone", b.liar(), 1);
        b.forget();
        b.report(0, 0, 2, 6);
        b.report(0, 0, 6, 6);
        b.report(0, 0, 5, 5);
        due("liar(): 1 or 2", b.liar(), 1);
        b.forget();
        b.report(0, 0, 7, 7);
        b.report(0, 0, 3, 3);
        due("liar(): 0 or 1", b.liar(), 0);
    }

    // ---- promise 35: "z (an int; 1 at first)"; "z becomes v: what it was."

    static void p35_seed_anyInt() {
        WreckBoard b = new WreckBoard();
        int was = 1;
        for (int v : new int[] {LOW, HIGH, -1, 0, 12345, 1}) {
            due("seed(" + v + ")", b.seed(v), was);
            was = v;
        }
        due("seed(1)", b.seed(1), 1);
    }

    // ---- promise 36: "z .. becomes z * 1103515245 + 12345; the ACT in it is what z >>> 16 leaves by how many MEMBERS
    // ---- there are and 1."

    static void p36_lot_zWraps() {
        for (int z : new int[] {1, 0, -1, 2, LOW, HIGH, 1 << 16, 123456789, -987654321}) {
            WreckBoard b = new WreckBoard();
            b.seed(z);
            b.lot();
            due("z behind a lot from " + z, b.seed(0), nextZ(z));
        }
        WreckBoard b = new WreckBoard();
        b.lot();
        due("from 1, told as a number", b.seed(0), 1103527590);
    }

    static void p36_lot_theAct() {
        for (int members = 0; members <= 6; members++) {
            for (int z : new int[] {1, -1, 77, -5, HIGH, LOW, 987654321}) {
                WreckBoard b = carriers(members);
                b.ends(16);
                b.seed(z);
                for (int night = 0; night < 16; night++) {
                    z = nextZ(z);
                    // What z >>> 16 is, told by a long.
                    int act = (int) ((z & 0xFFFFFFFFL) / 65536 % (members + 1));
                    int heard = b.state(4);
                    due("lot() of " + members + " members", b.lot(), act == 0 ? 0 : 2);
                    due("heard", b.state(4), act == 0 ? heard : heard | 1 << act - 1);
                }
            }
        }
    }

    static void p36_lot_over() {
        refusedBy(LotsEdgesTests::over, "lot(), being over", STATE, b -> b.lot());
        WreckBoard last = rich();
        last.ends(4);
        due("lot() in the last night is refused", last.lot() < 0 ? 1 : 0, 0);
        due("lot()", last.lot(), STATE);
    }

    // ---- promise 37

    static void p37_times_n1To40() {
        bounds("times(.., 0)", 1, 40, (b, v) -> b.times(v, 0));
        for (int n = 1; n <= 40; n++) {
            due("times(" + n + ", 0)", new WreckBoard().times(n, 0), n);
        }
    }

    static void p37_times_v0To999() {
        bounds("times(1, ..)", 0, 999, (b, v) -> b.times(1, v));
    }

    static void p37_times_vOrMore() {
        WreckBoard b = new WreckBoard();
        // Without members each time is worth 3 in each of 12 nights.
        due("times(5, 35)", b.times(5, 35), 5);
        due("times(5, 36)", b.times(5, 36), 5);
        due("times(5, 37)", b.times(5, 37), 0);
        due("times(5, 999)", b.times(5, 999), 0);
        b.ends(1);
        due("times(5, 3)", b.times(5, 3), 5);
        due("times(5, 4)", b.times(5, 4), 0);
    }

    /** "each from how it is now (z goes on from one to the next)" */
    static void p37_times_zGoesOn() {
        for (int n = 1; n <= 40; n++) {
            int z = -77;
            int want = 0;
            for (int time = 0; time < n; time++) {
                int worth = 0;
                for (int night = 0; night < 5; night++) {
                    z = nextZ(z);
                    worth += (z >>> 16) % 3 == 0 ? 0 : 2;
                }
                want += worth >= 8 ? 1 : 0;
            }
            WreckBoard b = carriers(2);
            b.ends(6);
            b.night();
            b.seed(-77);
            due("times(" + n + ", 8)", b.times(n, 8), want);
            due("z is as it was", b.seed(0), -77);
        }
    }

    static void p37_times_allNightsOf16() {
        WreckBoard b = new WreckBoard();
        b.ends(16);
        due("times(3, 48)", b.times(3, 48), 3);
        due("times(3, 49)", b.times(3, 49), 0);
    }

    static void p37_times_over() {
        asked(LotsEdgesTests::over, "times(40, 0), being over", 40, b -> b.times(40, 0));
        asked(LotsEdgesTests::over, "times(40, 1), being over", 0, b -> b.times(40, 1));
        refusedBy(LotsEdgesTests::over, "times(0, 0), being over", BAD, b -> b.times(0, 0));
    }

    // ---- promise 38: "ROWS of the FIRST of the BEST PLANS of n (0 to 4): how many. BAD."

    static void p38_prove_n0To4() {
        bounds("prove(..)", 0, 4, (b, v) -> b.prove(v));
        for (int n = 0; n <= 4; n++) {
            WreckBoard b = carriers(2);
            due("prove(" + n + ")", b.prove(n), n);
            due("many(4)", b.many(4), n);
            for (int k = 0; k <= 4; k++) {
                due("row(" + k + ", 0)", b.row(k, 0), k < n ? 1 : NO_ROW);
                due("row(" + k + ", 1)", b.row(k, 1), k < n ? 2 : NO_ROW);
                due("row(" + k + ", 2)", b.row(k, 2), k < n ? 1 : NO_ROW);
            }
        }
    }

    static void p38_prove_fewerIfItIsOver() {
        for (int n = 0; n <= 4; n++) {
            WreckBoard b = carriers(2);
            b.prove(4);
            b.ends(2);
            due("prove(" + n + "), 2 nights being left", b.prove(n), Math.min(2, n));
            due("many(4)", b.many(4), Math.min(2, n));
            b.night();
            b.night();
            due("prove(" + n + "), being over", b.prove(n), 0);
            due("many(4)", b.many(4), 0);
            due("row(0, 0)", b.row(0, 0), NO_ROW);
        }
    }

    static void p38_prove_changesRowsAlone() {
        WreckBoard b = rich();
        b.prove(3);
        b.alterRow(1, 1, -77);
        same("prove(3) once more", allOf(b), allOf(rich()));
    }

    static void p38_prove_inPlaceOfAllRows() {
        WreckBoard b = carriers(2);
        b.prove(4);
        for (int k = 0; k < 4; k++) {
            b.alterRow(k, 0, 99);
            b.alterRow(k, 1, 99);
            b.alterRow(k, 2, 99);
        }
        due("prove(2)", b.prove(2), 2);
        due("row(0, 0)", b.row(0, 0), 1);
        due("row(1, 1)", b.row(1, 1), 2);
        due("row(2, 0)", b.row(2, 0), NO_ROW);
    }

    // ---- promises 39, 40: "-9: there is none such, another what."

    static void p39_row_noneSuch() {
        for (int k : beside(0, 2)) {
            for (int what = 0; what < 3; what++) {
                int asked = what;
                refused("row(" + k + ", " + what + ")", NO_ROW, b -> b.row(k, asked));
            }
        }
        for (int what : beside(0, 2)) {
            refused("row(1, " + what + ")", NO_ROW, b -> b.row(1, what));
        }
        refusedBy(WreckBoard::new, "row(0, 0) of none", NO_ROW, b -> b.row(0, 0));
    }

    static void p40_alterRow_noneSuch() {
        for (int k : beside(0, 2)) {
            for (int what = 0; what < 3; what++) {
                int asked = what;
                refused("alterRow(" + k + ", " + what + ", 5)", NO_ROW, b -> b.alterRow(k, asked, 5));
            }
        }
        for (int what : beside(0, 2)) {
            refused("alterRow(1, " + what + ", 5)", NO_ROW, b -> b.alterRow(1, what, 5));
        }
        refusedBy(WreckBoard::new, "alterRow(0, 0, 5) of none", NO_ROW, b -> b.alterRow(0, 0, 5));
    }

    static void p40_alterRow_anyInt() {
        for (int k = 0; k < 4; k++) {
            for (int what = 0; what < 3; what++) {
                WreckBoard b = carriers(2);
                b.prove(4);
                int was = b.row(k, what);
                for (int v : new int[] {LOW, HIGH, -9, 0}) {
                    due("alterRow(" + k + ", " + what + ", " + v + ")", b.alterRow(k, what, v), was);
                    due("row(" + k + ", " + what + ")", b.row(k, what), v);
                    was = v;
                }
                for (int other = 0; other < 12; other++) {
                    if (other != 3 * k + what) {
                        due("another one", b.row(other / 3, other % 3), other % 3 == 1 ? 2 : 1);
                    }
                }
            }
        }
    }

    // ---- promise 41: "right is one whose ACT is one, if it isn't OVER, the others as they are then"

    static void p41_judge_noRows() {
        asked(WreckBoard::new, "judge()", 0, b -> b.judge());
        asked(LotsEdgesTests::over, "judge() of rows, being over", 1, b -> b.judge());
        WreckBoard b = over();
        b.prove(4);
        due("judge() of none, being over", b.judge(), 0);
    }

    static void p41_judge_whoseActIsOne() {
        for (int members = 0; members <= 6; members++) {
            WreckBoard b = carriers(members);
            b.prove(1);
            for (int act = 0; act <= members; act++) {
                b.alterRow(0, 0, act);
                b.alterRow(0, 1, act == 0 ? 0 : 2);
                b.alterRow(0, 2, act == 0 ? 0 : 1 << act - 1);
                due("judge(), the act being " + act + " of " + members, b.judge(), 0);
            }
            for (int act : beside(0, members)) {
                for (int worth = 0; worth <= 2; worth += 2) {
                    b.alterRow(0, 0, act);
                    b.alterRow(0, 1, worth);
                    due("judge(), the act being " + act + " of " + members, b.judge(), 1);
                }
            }
        }
    }

    static void p41_judge_theOthersAsTheyAreThen() {
        for (int k = 0; k < 4; k++) {
            WreckBoard b = carriers(2);
            b.prove(4);
            due("judge()", b.judge(), 0);
            for (int what = 1; what <= 2; what++) {
                int was = b.row(k, what);
                for (int v : new int[] {was - 1, was + 1, was + 64, -was, LOW, HIGH, 0}) {
                    b.alterRow(k, what, v);
                    due("judge(), " + what + " of row " + k + " being " + v, b.judge(), k + 1);
                }
                b.alterRow(k, what, was);
            }
        }
    }

    static void p41_judge_theFirstThatIsNot() {
        WreckBoard b = carriers(2);
        b.prove(4);
        for (int k = 3; k >= 0; k--) {
            b.alterRow(k, 1, 7);
            due("judge()", b.judge(), k + 1);
        }
    }

    static void p41_judge_ifItIsNotOver() {
        for (int left = 1; left <= 5; left++) {
            WreckBoard b = carriers(2);
            b.prove(4);
            b.ends(left);
            due("judge(), " + left + " nights being left", b.judge(), left < 4 ? left + 1 : 0);
        }
    }

    static void p41_judge_fromHowItIsNow() {
        WreckBoard b = carriers(2);
        b.keep();
        b.member(WRECKER, 4, 1, 0);
        b.prove(2);
        b.alterRow(1, 0, 3);
        b.alterRow(1, 2, 5);
        due("judge()", b.judge(), 0);
        b.again();
        due("judge(), there being no third member", b.judge(), 2);
        b.change(1, 4, 1);
        due("judge(), another one being heard", b.judge(), 1);
        b.alterRow(0, 2, 3);
        b.alterRow(1, 0, 0);
        b.alterRow(1, 1, 0);
        b.alterRow(1, 2, 3);
        due("judge() of another plan, rightly told", b.judge(), 0);
    }
}
