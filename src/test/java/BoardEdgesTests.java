import java.util.Map;

/** Edges of THE BOARD, its MEMBERS and how a NIGHT goes by: part 1 of the Terms, promises 1 to 12, and 15. */
public final class BoardEdgesTests extends Checks {
    public static void main(String[] args) throws IllegalAccessException {
        runAll(BoardEdgesTests.class);
    }

    private static WreckBoard six() {
        WreckBoard b = new WreckBoard();
        for (int k = 0; k < 6; k++) {
            b.member(k % 5 + 1, k, 9 - k, k);
        }
        return b;
    }

    /** One member alone, no ship is worth anything: what it carries is all that a night is worth. */
    private static WreckBoard one(int kind, int votes) {
        WreckBoard b = new WreckBoard();
        b.member(kind, votes, 1, 0);
        allShips(b, 0);
        return b;
    }

    /** A night goes by, such an act ahead of it: what it was worth. */
    private static int goes(WreckBoard b, int act) {
        acts(b, act);
        return b.goAll(0, 0, 1);
    }

    // ---- "An object is used for at most 512 calls after it has been made"

    static void t0_512Calls() {
        WreckBoard b = new WreckBoard();
        due("call 1", b.member(WRECKER, 4, 1, 0), 0);
        for (int call = 2; call <= 511; call++) {
            due("call " + call, b.seed(call), call == 2 ? 1 : call - 1);
        }
        due("call 512", b.on(16), 38);
    }

    // ---- Promise 1: "No MEMBERS, RULES, REPORTS; nothing is kept."

    static void p01_noMembers() {
        due("many(0)", new WreckBoard().many(0), 0);
        due("memberOf(0, 0)", new WreckBoard().memberOf(0, 0), BAD);
        due("the first that comes", new WreckBoard().member(1, 1, 1, 1), 0);
    }

    static void p01_noRules() {
        WreckBoard b = new WreckBoard();
        due("many(1)", b.many(1), 0);
        b.member(WRECKER, 1, 1, 1);
        due("will", b.memberOf(0, 8), DIM);
    }

    static void p01_noReports() {
        WreckBoard b = new WreckBoard();
        due("many(3)", b.many(3), 0);
        due("forget()", b.forget(), 0);
        due("lone(0)", b.lone(0), 500);
        due("report", b.report(0, 0, 0, 9), 0);
    }

    static void p01_nothingIsKept() {
        refusedBy(WreckBoard::new, "again()", NONE, b -> b.again());
    }

    // ---- "NIGHTS are 0, 1, ..; END is 1 to 16 (12 at first); NIGHT: the one that comes (0 at first)"

    static void t1_end_12AtFirst() {
        due("state(1)", new WreckBoard().state(1), 12);
        WreckBoard b = new WreckBoard();
        for (int night = 0; night < 12; night++) {
            due("night() in " + night + " is refused", b.night() < 0 ? 1 : 0, 0);
        }
        due("night() in 12", b.night(), STATE);
    }

    static void t1_end_1To16() {
        WreckBoard b = new WreckBoard();
        due("ends(1)", b.ends(1), 12);
        due("state(1)", b.state(1), 1);
        due("ends(16)", b.ends(16), 1);
        due("state(1)", b.state(1), 16);
        refusedBy(WreckBoard::new, "ends(0)", BAD, x -> x.ends(0));
        refusedBy(WreckBoard::new, "ends(17)", BAD, x -> x.ends(17));
    }

    static void t1_night_0AtFirst() {
        due("state(0)", new WreckBoard().state(0), 0);
    }

    // ---- "from END on it is OVER"

    static void t1_over_fromEndOn() {
        for (int end = 1; end <= 16; end++) {
            WreckBoard b = new WreckBoard();
            b.ends(end);
            for (int night = 0; night < end; night++) {
                due("over in " + night + " of " + end, b.state(3), 0);
                due("night() in " + night + " of " + end, b.night(), 3);
            }
            due("over in " + end, b.state(3), 1);
            due("night() in " + end, b.night(), STATE);
            due("night", b.state(0), end);
        }
    }

    static void t1_over_asEndIs() {
        WreckBoard b = new WreckBoard();
        b.night();
        b.night();
        b.ends(3);
        due("over, 3 being end", b.state(3), 0);
        b.ends(2);
        due("over, 2 being end", b.state(3), 1);
        due("night()", b.night(), STATE);
        b.ends(3);
        due("over, 3 being end", b.state(3), 0);
        due("night()", b.night(), 3);
    }

    // ---- "In each of NIGHTS 0 to 15 a SHIP comes by: .. 6 at first (behind NIGHT 15: 0)"

    static void t1_ship_6AtFirst() {
        WreckBoard b = new WreckBoard();
        b.ends(16);
        for (int night = 0; night < 16; night++) {
            due("the ship of " + night, b.state(5), 6);
            due("what it was worth", b.night(), 3);
        }
        for (int night = 0; night < 16; night++) {
            due("ship(" + night + ", 0)", b.ship(night, 0), 6);
        }
    }

    static void t1_ship_0BehindNight15() {
        WreckBoard b = new WreckBoard();
        allShips(b, 15);
        b.ends(16);
        b.member(FARMER, 2, 9, 0);
        for (int night = 0; night < 16; night++) {
            due("the ship of " + night, b.state(5), 15);
            due("the farmer leans by value 3 in " + night, b.memberOf(0, 5), DARK);
            b.night();
        }
        due("the ship of 16", b.state(5), 0);
        due("the farmer leans by value 0", b.memberOf(0, 5), BRIGHT);
        b.bench(0, 1, 1);
        due("by no less than -1", b.memberOf(0, 5), NEITHER);
        due("the count", b.state(8), NEITHER);
    }

    // ---- "4 times its VALUE (0 to 3), and how NEAR she steers (0 to 3)"; "A SHIP is LOST, if her VALUE is above 0,
    // ---- and LIGHT below 3 times how NEAR she steers"; "(2) If the SHIP is LOST, ..; else 1 more, if she has a VALUE"

    static void t1_lost_valueAbove0AndLightBelow() {
        int[] lostBelow = {0, 3, 6, 9};
        for (int ship = 0; ship < 16; ship++) {
            for (int light = 0; light <= 9; light++) {
                WreckBoard b = new WreckBoard();
                b.ship(0, ship);
                b.ends(1);
                b.rock(0, light);
                int value = ship / 4;
                boolean lost = value > 0 && light < lostBelow[ship % 4];
                String of = " of ship " + ship + " by light " + light;
                due("wrecks(0)" + of, b.wrecks(0), lost ? 1 : 0);
                due("wrecks(1)" + of, b.wrecks(1), lost ? 5 * value : 0);
                due("night()" + of, b.night(), lost ? 3 * value : value > 0 ? 1 : 0);
                due("the fund behind it" + of, b.state(7), lost ? 5 * value : 0);
            }
        }
    }

    /** It is (2): by LIGHT as (1) left it, ahead of (3). */
    static void t1_lost_byLightBetweenActAndNearer() {
        WreckBoard dims = one(WRECKER, 1);
        dims.ship(0, 13);
        dims.rock(0, 4);
        due("4, dimmed to 2: below 3", goes(dims, 1), 2 + 9);
        WreckBoard not = one(WRECKER, 1);
        not.ship(0, 13);
        not.rock(0, 5);
        due("5, dimmed to 3: not below 3", goes(not, 1), 2 + 1);
        WreckBoard trims = one(SAVER, 1);
        tell(trims, "saver trim;");
        trims.ship(0, 13);
        trims.rock(0, 1);
        due("1, trimmed to 3", goes(trims, 1), 2 + 1);
        trims.ship(1, 13);
        trims.rock(0, 0);
        due("0, trimmed to 2", goes(trims, 1), 2 + 9);
        WreckBoard nearer = new WreckBoard();
        nearer.ship(0, 5);
        nearer.rock(0, 2);
        due("2, that is 3 behind the night", nearer.night(), 3);
        nearer.ship(1, 6);
        nearer.rock(0, 6);
        due("6, that is 5 behind the night", nearer.night(), 1);
    }

    // ---- "LIGHT (0 to 9; 5 at first)"; "dim, trim: .. LIGHT is 2 less, 2 more (0 to 9 held)"

    static void t1_light_5AtFirst() {
        due("state(6)", new WreckBoard().state(6), 5);
    }

    static void t1_light_dimHeldAt0() {
        int[] behind = {1, 1, 1, 2, 3, 4, 5, 5, 5, 6};
        for (int light = 0; light <= 9; light++) {
            WreckBoard b = one(WRECKER, 3);
            b.rock(0, light);
            due("dim by light " + light, goes(b, 1), 2);
            due("light behind dim by " + light, b.state(6), behind[light]);
        }
    }

    static void t1_light_trimHeldAt9() {
        int[] behind = {3, 4, 5, 5, 5, 6, 7, 8, 8, 8};
        for (int light = 0; light <= 9; light++) {
            WreckBoard b = one(SAVER, 3);
            tell(b, "saver trim;");
            b.rock(0, light);
            due("trim by light " + light, goes(b, 1), 2);
            due("light behind trim by " + light, b.state(6), behind[light]);
        }
    }

    /** Held at 0 and at 9 ahead of (2): a ship that steers NEAR 3 is lost below 9, and not by 9. */
    static void t1_light_heldAheadOfTheShip() {
        WreckBoard b = one(SAVER, 3);
        tell(b, "saver trim;");
        b.ship(0, 7);
        b.rock(0, 7);
        due("7, trimmed to 9", goes(b, 1), 3);
        b.ship(1, 7);
        b.rock(0, 6);
        due("6, trimmed to 8", goes(b, 1), 5);
        b.ship(2, 7);
        b.rock(0, 8);
        due("8, trimmed to 9", goes(b, 1), 3);
    }

    // ---- "(3) LIGHT is nearer to 5 by 1. NIGHT is 1 more."

    static void t1_light_nearerTo5By1() {
        int[] behind = {1, 2, 3, 4, 5, 5, 5, 6, 7, 8};
        for (int light = 0; light <= 9; light++) {
            WreckBoard b = new WreckBoard();
            b.rock(0, light);
            b.night();
            due("light behind a night by " + light, b.state(6), behind[light]);
            due("night", b.state(0), 1);
        }
    }

    // ---- "the FUND (0 to 999; 0 at first)"; "the FUND is 5 times her VALUE more (999 held)"

    static void t1_fund_0AtFirst() {
        due("state(7)", new WreckBoard().state(7), 0);
    }

    static void t1_fund_heldAt999() {
        for (int value = 1; value <= 3; value++) {
            for (int more = -2; more <= 2; more++) {
                WreckBoard b = new WreckBoard();
                allShips(b, 4 * value + 3);
                int fund = Math.min(999, 999 - 5 * value + more);
                b.rock(1, fund);
                due("worth is not held", b.night(), 3 * value);
                due(fund + " and " + 5 * value, b.state(7), Math.min(999, fund + 5 * value));
            }
            WreckBoard full = new WreckBoard();
            allShips(full, 4 * value + 3);
            full.rock(1, 999);
            due("worth, the fund being full", full.night(), 3 * value);
            due("999 stays", full.state(7), 999);
        }
    }

    // ---- "BENCHES 0 to 5 each have HUSH, ZEAL (0 to 9; 0 at first)"

    static void t1_benches_0To5_0AtFirst() {
        WreckBoard b = new WreckBoard();
        for (int f = 0; f < 6; f++) {
            due("hush of " + f, b.benchOf(f, 0), 0);
            due("zeal of " + f, b.benchOf(f, 1), 0);
        }
        for (int f = 0; f < 6; f++) {
            due("bench(" + f + ", 0, 9)", b.bench(f, 0, 9), 0);
            due("bench(" + f + ", 1, " + f + ")", b.bench(f, 1, f), 0);
        }
        for (int f = 0; f < 6; f++) {
            due("hush of " + f, b.benchOf(f, 0), 9);
            due("zeal of " + f, b.benchOf(f, 1), f);
        }
    }

    // ---- "SCORE: what NIGHTS were WORTH (0 at first)."

    static void t1_score_0AtFirst() {
        due("state(2)", new WreckBoard().state(2), 0);
    }

    static void t1_score_ofEachNightThatGoesBy() {
        WreckBoard b = one(WRECKER, 1);
        b.ends(16);
        allShips(b, 15);
        int score = 0;
        for (int i = 0; i < 3; i++) {
            score += b.night();
            due("score behind night()", b.state(2), score);
            acts(b, 0, 1);
            score += b.goAll(0, 0, 2);
            due("score behind goAll()", b.state(2), score);
            score += b.lot();
            due("score behind lot()", b.state(2), score);
        }
        due("12 ships, and some more", score >= 108 ? 1 : 0, 1);
        b.on(16);
        b.best(4);
        b.wouldBe(0, 0, 2);
        due("what is asked counts nothing", b.state(2), score);
    }

    // ---- "MEMBERS, 6 at most, numbered as they come"; "HEARD or not (at first)"; promise 2

    static void t1_members_6AtMost() {
        WreckBoard b = new WreckBoard();
        for (int k = 0; k < 6; k++) {
            due("member " + k, b.member(5 - k % 5, k, k + 1, 5 - k), k);
            due("how many", b.many(0), k + 1);
            due("the next one isn't yet", b.memberOf(k + 1, 0), BAD);
        }
        for (int k = 0; k < 6; k++) {
            due("kind of " + k, b.memberOf(k, 0), 5 - k % 5);
            due("votes of " + k, b.memberOf(k, 1), k);
            due("greed of " + k, b.memberOf(k, 2), k + 1);
            due("bench of " + k, b.memberOf(k, 3), 5 - k);
            due("not heard", b.memberOf(k, 4), 0);
        }
    }

    static void p02_member_full() {
        refusedBy(BoardEdgesTests::six, "the seventh", FULL, b -> b.member(1, 1, 1, 1));
    }

    static void p02_member_badAheadOfFull() {
        refusedBy(BoardEdgesTests::six, "kind 0", BAD, b -> b.member(0, 1, 1, 1));
        refusedBy(BoardEdgesTests::six, "kind 6", BAD, b -> b.member(6, 1, 1, 1));
        refusedBy(BoardEdgesTests::six, "votes 10", BAD, b -> b.member(1, 10, 1, 1));
        refusedBy(BoardEdgesTests::six, "greed 10", BAD, b -> b.member(1, 1, 10, 1));
        refusedBy(BoardEdgesTests::six, "bench 6", BAD, b -> b.member(1, 1, 1, 6));
    }

    static void p02_member_kind1To5() {
        bounds("member's kind", 1, 5, (b, v) -> b.member(v, 1, 1, 1));
    }

    static void p02_member_votes0To9() {
        bounds("member's votes", 0, 9, (b, v) -> b.member(1, v, 1, 1));
    }

    static void p02_member_greed0To9() {
        bounds("member's greed", 0, 9, (b, v) -> b.member(1, 1, v, 1));
    }

    static void p02_member_bench0To5() {
        bounds("member's bench", 0, 5, (b, v) -> b.member(1, 1, 1, v));
    }

    // ---- promise 3

    static void p03_memberOf_suchAsThereAre() {
        for (int what = 0; what <= 8; what++) {
            int asked = what;
            bounds("memberOf(.., " + what + ")", 0, 4, (b, v) -> b.memberOf(v, asked));
        }
        refusedBy(WreckBoard::new, "memberOf(0, 0) of none", BAD, b -> b.memberOf(0, 0));
        due("memberOf(5, 0) of six", six().memberOf(5, 0), 1);
        refusedBy(BoardEdgesTests::six, "memberOf(6, 0) of six", BAD, b -> b.memberOf(6, 0));
    }

    static void p03_memberOf_what0To8() {
        bounds("memberOf(2, ..)", 0, 8, (b, v) -> b.memberOf(2, v));
    }

    // ---- LEANS: "above 0: to the dark, below: to the light"; "To that ZEAL of its BENCH is added."

    private static int leanDue(int kind, int value, int light, int greed, int night) {
        switch (kind) {
            case WRECKER: return greed * value + 1;
            case SAVER: return light <= 4 ? -3 : -1;
            case CHAIR: return night == 1 || night == 15 ? 0 : light <= 4 ? -3 : -1;
            case FARMER: return value == 2 ? greed : value - 1;
            default: return value == 2 ? -greed : 1 - value;
        }
    }

    private static void leans(int kind, int value, int light, int greed, int night) {
        WreckBoard b = new WreckBoard();
        b.ends(16);
        for (int i = 0; i < night; i++) {
            b.night();
        }
        b.member(kind, 1, greed, 4);
        b.ship(night, 4 * value + greed % 4);
        b.rock(0, light);
        b.bench(3, 1, 9);
        int lean = leanDue(kind, value, light, greed, night);
        String of = " of kind " + kind + " by value " + value + ", light " + light + ", greed " + greed + ", night "
            + night;
        due("leans" + of, b.memberOf(0, 5), lean > 0 ? DARK : lean < 0 ? BRIGHT : NEITHER);
        for (int zeal = Math.max(0, -lean - 1); zeal <= Math.min(9, 1 - lean); zeal++) {
            b.bench(4, 1, zeal);
            int all = lean + zeal;
            due("leans, zeal " + zeal + of, b.memberOf(0, 5), all > 0 ? DARK : all < 0 ? BRIGHT : NEITHER);
        }
    }

    static void t1_leans_byEachFact() {
        for (int kind = 1; kind <= 5; kind++) {
            for (int value = 0; value <= 3; value++) {
                for (int light = 0; light <= 9; light++) {
                    for (int greed = 0; greed <= 9; greed++) {
                        leans(kind, value, light, greed, 0);
                        leans(kind, value, light, greed, 1);
                    }
                }
            }
        }
    }

    static void t1_leans_saverLightBelow5() {
        for (int night : new int[] {0, 1, 14, 15}) {
            leans(SAVER, 1, 4, 3, night);
            leans(SAVER, 1, 5, 3, night);
        }
    }

    static void t1_leans_chairOddNights() {
        for (int night : new int[] {0, 1, 14, 15}) {
            leans(CHAIR, 1, 4, 3, night);
            leans(CHAIR, 1, 5, 3, night);
        }
    }

    // ---- WEIGHS: "half (cut)", "3 at most", "From that HUSH of its BENCH is taken (0 at least)."

    private static void weighs(int kind, int number, int... byVotes) {
        for (int votes = 0; votes <= 9; votes++) {
            WreckBoard b = new WreckBoard();
            for (int k = 0; k < number; k++) {
                b.member(WRECKER, 9, 1, 1);
            }
            b.member(kind, votes, 0, 2);
            b.bench(1, 0, 9);
            for (int hush = 0; hush <= 9; hush++) {
                b.bench(2, 0, hush);
                due("what kind " + kind + ", number " + number + " weighs by votes " + votes + ", hush " + hush,
                    b.memberOf(number, 6), Math.max(0, byVotes[votes] - hush));
            }
        }
    }

    static void t1_weighs_wrecker() {
        weighs(WRECKER, 0, 1, 2, 3, 4, 5, 6, 7, 8, 9, 10);
        weighs(WRECKER, 5, 1, 2, 3, 4, 5, 6, 7, 8, 9, 10);
    }

    static void t1_weighs_saver() {
        weighs(SAVER, 0, 0, 2, 4, 6, 8, 10, 12, 14, 16, 18);
        weighs(SAVER, 5, 0, 2, 4, 6, 8, 10, 12, 14, 16, 18);
    }

    static void t1_weighs_chair() {
        weighs(CHAIR, 0, 0, 2, 4, 6, 8, 10, 12, 14, 16, 18);
        weighs(CHAIR, 1, 1, 3, 5, 7, 9, 11, 13, 15, 17, 19);
        weighs(CHAIR, 5, 5, 7, 9, 11, 13, 15, 17, 19, 21, 23);
    }

    static void t1_weighs_farmerHalfCut() {
        weighs(FARMER, 0, 0, 1, 1, 2, 2, 3, 3, 4, 4, 5);
        weighs(FARMER, 5, 0, 1, 1, 2, 2, 3, 3, 4, 4, 5);
    }

    static void t1_weighs_lad3AtMost() {
        weighs(LAD, 0, 0, 1, 1, 2, 2, 3, 3, 3, 3, 3);
        weighs(LAD, 5, 0, 1, 1, 2, 2, 3, 3, 3, 3, 3);
    }

    // ---- THE COUNT; "CARRIED: dim, if THE COUNT is above 0; trim, if it is below."

    /** To the dark a wrecker with so many votes, to the light a saver with 2: the count is votes less 3. */
    private static WreckBoard counting(int votes) {
        WreckBoard b = new WreckBoard();
        b.member(WRECKER, votes, 1, 0);
        b.member(SAVER, 2, 1, 1);
        allShips(b, 0);
        return b;
    }

    static void t1_count_above0_0_below() {
        int[] want = {BRIGHT, BRIGHT, BRIGHT, NEITHER, DARK, DARK, DARK, DARK, DARK, DARK};
        for (int votes = 0; votes <= 9; votes++) {
            due("state(8), the count being " + (votes - 3), counting(votes).state(8), want[votes]);
        }
        due("of no members", new WreckBoard().state(8), NEITHER);
    }

    static void t1_count_whoLeansNeitherWay() {
        WreckBoard b = counting(3);
        b.member(CHAIR, 9, 1, 2);
        b.night();
        due("the chair in an odd night", b.state(8), NEITHER);
        b.night();
        due("the chair in an even night", b.state(8), BRIGHT);
    }

    static void t1_count_whoIsHeardToo() {
        WreckBoard b = counting(4);
        b.change(0, 4, 1);
        due("to the dark by 1", b.state(8), DARK);
        b.change(1, 4, 1);
        b.change(0, 1, 2);
        due("to the light by 1", b.state(8), BRIGHT);
    }

    static void t1_carried_dimAbove0() {
        for (int votes = 2; votes <= 4; votes++) {
            due("dim would, the count being " + (votes - 3), counting(votes).memberOf(1, 7), votes > 3 ? 1 : 0);
            due("dim, the count being " + (votes - 3), goes(counting(votes), 2), votes > 3 ? 2 : 0);
        }
    }

    static void t1_carried_trimBelow0() {
        for (int votes = 2; votes <= 4; votes++) {
            WreckBoard b = counting(votes);
            tell(b, "member trim;");
            due("trim would, the count being " + (votes - 3), b.memberOf(1, 7), votes < 3 ? 1 : 0);
            due("trim, the count being " + (votes - 3), goes(b, 2), votes < 3 ? 2 : 0);
        }
    }

    // ---- "One WOULD carry, if it is not HEARD, and what its WILL is would be CARRIED as all is."

    static void t1_would_notHeard() {
        WreckBoard b = counting(9);
        due("would", b.memberOf(0, 7), 1);
        b.change(0, 4, 1);
        due("would, being heard", b.memberOf(0, 7), 0);
        due("nor is it told in the rest", b.when(1), 0);
        b.change(0, 4, 0);
        due("would", b.memberOf(0, 7), 1);
    }

    static void t1_would_keepNever() {
        for (int votes = 2; votes <= 4; votes++) {
            WreckBoard b = counting(votes);
            tell(b, "member keep;");
            due("keep, the count being " + (votes - 3), b.memberOf(0, 7), 0);
        }
    }

    // ---- "(1) If a MEMBER is told, it does as its WILL is"

    static void t1_told_nobody() {
        WreckBoard b = counting(9);
        due("nobody is told", goes(b, 0), 0);
        due("nobody is heard", b.state(4), 0);
        due("votes", b.memberOf(0, 1) * 10 + b.memberOf(1, 1), 92);
    }

    static void t1_told_carriedIsHeard() {
        WreckBoard b = counting(9);
        due("worth", goes(b, 2), 2);
        due("heard", b.state(4), 2);
        due("votes stay", b.memberOf(0, 1) * 10 + b.memberOf(1, 1), 92);
    }

    static void t1_told_heardMayCarryAgain() {
        WreckBoard b = counting(9);
        b.rock(0, 9);
        due("worth", goes(b, 2), 2);
        due("light", b.state(6), 6);
        due("worth", goes(b, 2), 2);
        due("light", b.state(6), 5);
        due("heard", b.state(4), 2);
    }

    /** "else it has 1 of VOTES less (0 at least)", the count being below 0, and 0. */
    static void t1_told_notCarriedVotesLess() {
        for (int votes = 0; votes <= 9; votes++) {
            WreckBoard dims = one(SAVER, votes);
            due("dim isn't carried", goes(dims, 1), 0);
            due("votes, " + votes + " at first", dims.memberOf(0, 1), Math.max(0, votes - 1));
            due("not heard", dims.state(4), 0);
            due("light", dims.state(6), 5);
            WreckBoard trims = one(WRECKER, votes);
            tell(trims, "member trim;");
            due("trim isn't carried", goes(trims, 1), 0);
            due("votes, " + votes + " at first", trims.memberOf(0, 1), Math.max(0, votes - 1));
            due("not heard", trims.state(4), 0);
            due("light", trims.state(6), 5);
        }
    }

    static void t1_told_notCarriedByACountOf0() {
        String[] rules = {"member dim;", "member trim;"};
        for (String rule : rules) {
            WreckBoard b = counting(3);
            tell(b, rule);
            due(rule, goes(b, 1), 0);
            due("votes", b.memberOf(0, 1) * 10 + b.memberOf(1, 1), 22);
            due("heard", b.state(4), 0);
        }
    }

    static void t1_told_notCarriedStaysHeard() {
        WreckBoard b = one(SAVER, 4);
        b.change(0, 4, 1);
        due("dim isn't carried", goes(b, 1), 0);
        due("votes", b.memberOf(0, 1), 3);
        due("heard still", b.state(4), 1);
    }

    static void t1_told_keepNothing() {
        for (int votes = 2; votes <= 4; votes++) {
            WreckBoard b = counting(votes);
            tell(b, "member keep;");
            b.rock(0, 8);
            due("keep", goes(b, 1), 0);
            due("votes", b.memberOf(0, 1), votes);
            due("heard", b.state(4), 0);
            due("light", b.state(6), 7);
        }
    }

    // ---- promises 4 to 9: "BAD"

    static void p04_change_suchAsThereAre() {
        for (int what = 1; what <= 4; what++) {
            int changed = what;
            bounds("change(.., " + what + ", 1)", 0, 4, (b, v) -> b.change(v, changed, 1));
        }
        refusedBy(WreckBoard::new, "change(0, 1, 1) of none", BAD, b -> b.change(0, 1, 1));
    }

    static void p04_change_what1To4() {
        bounds("change(2, .., 1)", 1, 4, (b, v) -> b.change(2, v, 1));
    }

    static void p04_change_votes0To9() {
        bounds("change(2, 1, ..)", 0, 9, (b, v) -> b.change(2, 1, v));
    }

    static void p04_change_greed0To9() {
        bounds("change(2, 2, ..)", 0, 9, (b, v) -> b.change(2, 2, v));
    }

    static void p04_change_bench0To5() {
        bounds("change(2, 3, ..)", 0, 5, (b, v) -> b.change(2, 3, v));
    }

    static void p04_change_heard0To1() {
        bounds("change(2, 4, ..)", 0, 1, (b, v) -> b.change(2, 4, v));
    }

    static void p04_change_whatItWas() {
        int[] most = {0, 9, 9, 5, 1};
        for (int what = 1; what <= 4; what++) {
            WreckBoard b = six();
            int was = b.memberOf(5, what);
            for (int v = most[what]; v >= 0; v--) {
                due("change(5, " + what + ", " + v + ")", b.change(5, what, v), was);
                due("memberOf(5, " + what + ")", b.memberOf(5, what), v);
                was = v;
            }
        }
    }

    static void p05_remake_suchAsThereAre() {
        bounds("remake(.., 1)", 0, 4, (b, v) -> b.remake(v, 1));
        refusedBy(WreckBoard::new, "remake(0, 1) of none", BAD, b -> b.remake(0, 1));
    }

    static void p05_remake_kind1To5() {
        bounds("remake(2, ..)", 1, 5, (b, v) -> b.remake(2, v));
    }

    static void p05_remake_allElseStays() {
        WreckBoard b = six();
        b.change(5, 4, 1);
        int was = 1;
        for (int kind = 5; kind >= 1; kind--) {
            due("remake(5, " + kind + ")", b.remake(5, kind), was);
            due("kind", b.memberOf(5, 0), kind);
            due("votes", b.memberOf(5, 1), 5);
            due("greed", b.memberOf(5, 2), 4);
            due("bench", b.memberOf(5, 3), 5);
            due("heard", b.memberOf(5, 4), 1);
            was = kind;
        }
    }

    static void p06_ship_night0To15() {
        bounds("ship(.., 1)", 0, 15, (b, v) -> b.ship(v, 1));
    }

    static void p06_ship_v0To15() {
        bounds("ship(4, ..)", 0, 15, (b, v) -> b.ship(4, v));
    }

    static void p06_ship_alsoOfNightsThatWentBy() {
        WreckBoard b = new WreckBoard();
        b.night();
        due("ship(0, 7)", b.ship(0, 7), 6);
        due("ship(0, 7)", b.ship(0, 7), 7);
        due("that of now", b.state(5), 6);
        due("ship(15, 9): from end on", b.ship(15, 9), 6);
        due("ship(15, 9)", b.ship(15, 9), 9);
    }

    static void p07_bench_0To5() {
        bounds("bench(.., 0, 1)", 0, 5, (b, v) -> b.bench(v, 0, 1));
        bounds("bench(.., 1, 1)", 0, 5, (b, v) -> b.bench(v, 1, 1));
    }

    static void p07_bench_what0To1() {
        bounds("bench(2, .., 1)", 0, 1, (b, v) -> b.bench(2, v, 1));
    }

    static void p07_bench_v0To9() {
        bounds("bench(2, 0, ..)", 0, 9, (b, v) -> b.bench(2, 0, v));
        bounds("bench(2, 1, ..)", 0, 9, (b, v) -> b.bench(2, 1, v));
    }

    static void p08_benchOf_0To5() {
        bounds("benchOf(.., 0)", 0, 5, (b, v) -> b.benchOf(v, 0));
        bounds("benchOf(.., 1)", 0, 5, (b, v) -> b.benchOf(v, 1));
    }

    static void p08_benchOf_what0To1() {
        bounds("benchOf(2, ..)", 0, 1, (b, v) -> b.benchOf(2, v));
    }

    static void p09_rock_what0To1() {
        bounds("rock(.., 1)", 0, 1, (b, v) -> b.rock(v, 1));
    }

    static void p09_rock_light0To9() {
        bounds("rock(0, ..)", 0, 9, (b, v) -> b.rock(0, v));
        WreckBoard b = new WreckBoard();
        int was = 5;
        for (int light : new int[] {0, 9, 1}) {
            due("rock(0, " + light + ")", b.rock(0, light), was);
            due("light", b.state(6), light);
            was = light;
        }
    }

    static void p09_rock_fund0To999() {
        bounds("rock(1, ..)", 0, 999, (b, v) -> b.rock(1, v));
        WreckBoard b = new WreckBoard();
        int was = 0;
        for (int fund : new int[] {999, 0, 998}) {
            due("rock(1, " + fund + ")", b.rock(1, fund), was);
            due("fund", b.state(7), fund);
            was = fund;
        }
    }

    // ---- promise 10: "BAD; STATE: v is below NIGHT."

    static void p10_ends_1To16() {
        bounds("ends(..)", 1, 16, (b, v) -> b.ends(v));
    }

    static void p10_ends_belowNight() {
        refused("ends(2) in night 3", STATE, b -> b.ends(2));
        refused("ends(1) in night 3", STATE, b -> b.ends(1));
        WreckBoard b = rich();
        due("ends(3) in night 3", b.ends(3), 9);
        due("over", b.state(3), 1);
        due("ends(3), being over", b.ends(3), 3);
        due("ends(2), being over", b.ends(2), STATE);
        due("ends(4)", b.ends(4), 3);
        due("over", b.state(3), 0);
    }

    static void p10_ends_badAheadOfState() {
        refused("ends(0) in night 3", BAD, b -> b.ends(0));
        refused("ends(-1) in night 3", BAD, b -> b.ends(-1));
    }

    static void p10_ends_inNight16() {
        WreckBoard b = new WreckBoard();
        b.ends(16);
        for (int night = 0; night < 16; night++) {
            b.night();
        }
        due("ends(15)", b.ends(15), STATE);
        due("ends(16)", b.ends(16), 16);
        due("ends(17)", b.ends(17), BAD);
    }

    // ---- promise 11

    static void p11_anew_whatBecomesAnew() {
        WreckBoard b = rich();
        due("anew()", b.anew(), 3);
        due("night", b.state(0), 0);
        due("score", b.state(2), 0);
        due("over", b.state(3), 0);
        due("heard", b.state(4), 0);
        due("light", b.state(6), 5);
        due("fund", b.state(7), 0);
    }

    private static boolean goesByNights(String asked) {
        return asked.matches("state\\([^1]\\)|memberOf\\(., [4-8]\\)|many\\(2\\)");
    }

    static void p11_anew_allElseStays() {
        WreckBoard b = rich();
        b.anew();
        Map<String, Integer> got = allOf(b);
        Map<String, Integer> want = allOf(rich());
        got.keySet().removeIf(BoardEdgesTests::goesByNights);
        want.keySet().removeIf(BoardEdgesTests::goesByNights);
        same("behind anew()", got, want);
    }

    static void p11_anew_votesStay() {
        WreckBoard b = one(SAVER, 4);
        goes(b, 1);
        due("votes", b.memberOf(0, 1), 3);
        due("anew()", b.anew(), 1);
        due("votes", b.memberOf(0, 1), 3);
    }

    static void p11_anew_atNight0() {
        due("anew()", new WreckBoard().anew(), 0);
        WreckBoard b = new WreckBoard();
        b.anew();
        same("behind anew() of a new object", allOf(b), allOf(new WreckBoard()));
    }

    static void p11_anew_fromNight16() {
        WreckBoard b = new WreckBoard();
        b.ends(16);
        for (int night = 0; night < 16; night++) {
            b.night();
        }
        due("anew()", b.anew(), 16);
        due("over", b.state(3), 0);
        due("end", b.state(1), 16);
    }

    // ---- promise 12

    static void p12_state_what0To8() {
        bounds("state(..)", 0, 8, (b, v) -> b.state(v));
    }

    /** "Sets are told by bits." */
    static void p12_state_heardByBits() {
        for (int k = 0; k < 6; k++) {
            WreckBoard b = six();
            b.change(k, 4, 1);
            due("state(4), " + k + " being heard", b.state(4), 1 << k);
        }
        WreckBoard all = six();
        for (int k = 0; k < 6; k++) {
            all.change(k, 4, 1);
        }
        due("state(4), all being heard", all.state(4), 63);
    }

    // ---- promise 15: "STATE: it is OVER."

    private static WreckBoard over() {
        WreckBoard b = rich();
        b.ends(3);
        return b;
    }

    static void p15_night_over() {
        refusedBy(BoardEdgesTests::over, "night() when it is over", STATE, b -> b.night());
    }

    static void p15_night_theLastOne() {
        WreckBoard b = rich();
        b.ends(4);
        due("night() is refused", b.night() < 0 ? 1 : 0, 0);
        due("night()", b.night(), STATE);
    }

    /** "in each the least MEMBER being told that WOULD carry (none, if there is none)" */
    static void p15_night_theLeastThatWould() {
        WreckBoard b = new WreckBoard();
        for (int k = 0; k < 6; k++) {
            b.member(WRECKER, 1, 1, 1);
        }
        allShips(b, 0);
        tell(b, "member if number = 0 keep; member if number = 2 trim; member if number > 5 keep;");
        int[] heard = {2, 10, 26, 58, 58};
        for (int i = 0; i < heard.length; i++) {
            due("night()", b.night(), i < 4 ? 2 : 0);
            due("heard", b.state(4), heard[i]);
        }
        due("votes of who would not", b.memberOf(2, 1), 1);
    }

    static void p15_night_noMembers() {
        WreckBoard b = new WreckBoard();
        due("night()", b.night(), 3);
        due("heard", b.state(4), 0);
    }
}
