import java.util.function.Supplier;

/** Edges of what is asked of THE REST, PARTIES, POWERS, PLANS and GAMES: part 3 of the Terms, promises 16 to 30. */
public final class AskedEdgesTests extends Checks {
    public static void main(String[] args) throws IllegalAccessException {
        runAll(AskedEdgesTests.class);
    }

    /** So many wreckers, each of which carries dim whenever it is told; that is worth 2, all else nothing. */
    private static WreckBoard carriers(int many) {
        WreckBoard b = new WreckBoard();
        for (int k = 0; k < many; k++) {
            b.member(WRECKER, 4, 1, 0);
        }
        allShips(b, 0);
        return b;
    }

    private static WreckBoard carriersTill(int many, int end) {
        WreckBoard b = carriers(many);
        b.ends(end);
        return b;
    }

    private static WreckBoard carriersFrom(int many, int night) {
        WreckBoard b = carriers(many);
        b.ends(16);
        for (int i = 0; i < night; i++) {
            b.night();
        }
        return b;
    }

    /** It is over in night 2 of 2, two being heard. */
    private static WreckBoard over() {
        WreckBoard b = carriers(3);
        b.night();
        b.night();
        b.ends(2);
        return b;
    }

    private static WreckBoard overRich() {
        WreckBoard b = rich();
        b.ends(3);
        return b;
    }

    /** That a question of a board answers as on another such, and changes nothing. */
    private static void changesNothing(Supplier<WreckBoard> made, String call, Call question) {
        asked(made, call, question.on(made.get()), question);
    }

    // ---- "What is asked changes nothing, if not told."

    private static void questionsChangeNothing(Supplier<WreckBoard> made) {
        changesNothing(made, "memberOf(2, 8)", b -> b.memberOf(2, 8));
        changesNothing(made, "memberOf(4, 7)", b -> b.memberOf(4, 7));
        changesNothing(made, "benchOf(5, 0)", b -> b.benchOf(5, 0));
        changesNothing(made, "state(8)", b -> b.state(8));
        changesNothing(made, "on(16)", b -> b.on(16));
        changesNothing(made, "when(4)", b -> b.when(4));
        changesNothing(made, "votesFor(4)", b -> b.votesFor(4));
        changesNothing(made, "benchFor(4)", b -> b.benchFor(4));
        changesNothing(made, "fund(70)", b -> b.fund(70));
        changesNothing(made, "wrecks(0)", b -> b.wrecks(0));
        changesNothing(made, "wrecks(1)", b -> b.wrecks(1));
        changesNothing(made, "parties(-1)", b -> b.parties(-1));
        changesNothing(made, "parties(3)", b -> b.parties(3));
        changesNothing(made, "power(4)", b -> b.power(4));
    }

    static void t3_questionsOfTheRestChangeNothing() {
        questionsChangeNothing(Checks::rich);
        questionsChangeNothing(AskedEdgesTests::overRich);
    }

    /** Six, none of which carries: each that is told has a vote less. */
    private static WreckBoard losers() {
        WreckBoard b = new WreckBoard();
        for (int k = 0; k < 6; k++) {
            b.member(SAVER, 9 - k, 1, k);
        }
        b.rock(1, 940);
        return b;
    }

    static void t3_questionsGiveVotesAndTheFundBack() {
        questionsChangeNothing(AskedEdgesTests::losers);
        plansChangeNothing(AskedEdgesTests::losers);
        othersChangeNothing(AskedEdgesTests::losers);
        WreckBoard b = losers();
        b.best(4);
        b.ways(4);
        b.agenda(4, 63);
        b.bars(4, 63);
        b.game(4);
        b.play(4);
        b.times(5, 0);
        b.prove(4);
        b.judge();
        acts(b, 1, 2, 3, 4, 5, 6);
        b.wouldBe(0, 0, 6);
        for (int k = 0; k < 6; k++) {
            due("votes of " + k, b.memberOf(k, 1), 9 - k);
        }
        due("fund", b.state(7), 940);
    }

    private static void plansChangeNothing(Supplier<WreckBoard> made) {
        changesNothing(made, "best(4)", b -> b.best(4));
        changesNothing(made, "ith(4, 3)", b -> b.ith(4, 3));
        changesNothing(made, "ways(4)", b -> b.ways(4));
        changesNothing(made, "agenda(4, 24)", b -> b.agenda(4, 24));
        changesNothing(made, "bars(4, 24)", b -> b.bars(4, 24));
        changesNothing(made, "game(4)", b -> b.game(4));
        changesNothing(made, "play(4)", b -> b.play(4));
    }

    static void t3_questionsOfPlansChangeNothing() {
        plansChangeNothing(Checks::rich);
        plansChangeNothing(AskedEdgesTests::overRich);
    }

    private static void othersChangeNothing(Supplier<WreckBoard> made) {
        changesNothing(made, "lone(0)", b -> b.lone(0));
        changesNothing(made, "lone(3)", b -> b.lone(3));
        changesNothing(made, "liar()", b -> b.liar());
        changesNothing(made, "times(40, 20)", b -> b.times(40, 20));
        changesNothing(made, "row(1, 1)", b -> b.row(1, 1));
        changesNothing(made, "judge()", b -> b.judge());
        changesNothing(made, "item(0, 0, 2)", b -> b.item(0, 0, 2));
        changesNothing(made, "wouldBe(0, 0, 2)", b -> b.wouldBe(0, 0, 2));
        changesNothing(made, "taken(0, 4)", b -> b.taken(0, 4));
        changesNothing(made, "trace(4)", b -> b.trace(4));
        changesNothing(made, "many(6)", b -> b.many(6));
    }

    static void t3_otherQuestionsChangeNothing() {
        othersChangeNothing(Checks::rich);
        othersChangeNothing(AskedEdgesTests::overRich);
    }

    // ---- promise 16: "n (0 to 16) NIGHTS of THE REST (fewer, if it is OVER)"

    static void p16_on_n0To16() {
        bounds("on(..)", 0, 16, (b, v) -> b.on(v));
        for (int n = 0; n <= 16; n++) {
            due("on(" + n + ")", carriers(6).on(n), Math.min(12, 2 * n));
        }
        allNightsOf16();
    }

    private static void allNightsOf16() {
        WreckBoard b = new WreckBoard();
        allShips(b, 4);
        b.ends(16);
        for (int n = 0; n <= 16; n++) {
            due("on(" + n + ") of 16", b.on(n), n);
        }
    }

    static void p16_on_fewerIfItIsOver() {
        for (int n = 0; n <= 16; n++) {
            due("on(" + n + "), 3 nights being left", carriersTill(6, 3).on(n), Math.min(6, 2 * n));
            asked(AskedEdgesTests::over, "on(" + n + "), being over", 0, nightsOn(n));
        }
    }

    private static Call nightsOn(int n) {
        return b -> b.on(n);
    }

    // ---- promise 17: "The first NIGHT of THE REST behind which a MEMBER is HEARD. BAD; NONE (also if it is now)."

    static void p17_when_suchAsThereAre() {
        bounds("when(..)", 0, 4, (b, v) -> b.when(v));
        refusedBy(WreckBoard::new, "when(0) of none", BAD, b -> b.when(0));
    }

    static void p17_when_upToTheLastNight() {
        for (int k = 0; k < 6; k++) {
            due("when(" + k + ")", carriers(6).when(k), k);
            due("when(" + k + "), 3 nights being left", carriersTill(6, 3).when(k), k < 3 ? k : NONE);
            due("when(" + k + ") in night 2", carriersFrom(6, 2).when(k), k < 2 ? NONE : k);
        }
        WreckBoard last = carriers(1);
        tell(last, "member if night < 15 keep;");
        last.ends(16);
        due("when(0), the last night being 15", last.when(0), 15);
        last.ends(15);
        due("when(0), the last night being 14", last.when(0), NONE);
    }

    static void p17_when_alsoIfItIsNow() {
        WreckBoard b = carriers(2);
        b.change(0, 4, 1);
        due("when(0), being heard", b.when(0), NONE);
        due("when(1)", b.when(1), 0);
        b.change(0, 4, 0);
        due("when(0), not being heard", b.when(0), 0);
    }

    static void p17_when_over() {
        asked(AskedEdgesTests::over, "when(2), being over", NONE, b -> b.when(2));
        asked(AskedEdgesTests::over, "when(0), being over", NONE, b -> b.when(0));
    }

    // ---- promise 18: "VOTES with which a MEMBER makes THE REST WORTH most; of several the least."

    /** A wrecker that carries with more votes than such, or with any, being -1, against a saver. */
    private static WreckBoard against(int votes) {
        WreckBoard b = new WreckBoard();
        b.member(WRECKER, 3, 1, 0);
        b.member(SAVER, (votes + 2) / 2, 1, 1);
        // It weighs 1 more than such votes: as much as the wrecker then.
        b.bench(1, 0, (votes + 2) / 2 * 2 - votes - 1);
        allShips(b, 0);
        return b;
    }

    static void p18_votesFor_theLeastOfSeveral() {
        for (int votes = -1; votes <= 8; votes++) {
            int against = votes;
            asked(() -> against(against), "votesFor(0) against " + votes, votes + 1, b -> b.votesFor(0));
        }
        due("votesFor(0), with none of which it carries", against(9).votesFor(0), 0);
        due("votesFor(1): to be outweighed by 4", against(4).votesFor(1), 0);
    }

    /** A wrecker that carries in the last of 16 nights alone, and by so many votes, or from another bench. */
    private static WreckBoard inTheLastNight() {
        WreckBoard b = against(4);
        tell(b, "wrecker if night = 15 dim; member keep;");
        b.bench(5, 0, 0);
        b.ends(16);
        return b;
    }

    static void p18_votesFor_allNightsOf16() {
        due("votesFor(0)", inTheLastNight().votesFor(0), 5);
        WreckBoard b = inTheLastNight();
        b.ends(15);
        due("votesFor(0), there being no night 15", b.votesFor(0), 0);
    }

    static void p19_benchFor_allNightsOf16() {
        WreckBoard b = inTheLastNight();
        b.change(0, 1, 5);
        b.bench(0, 0, 1);
        b.change(1, 3, 2);
        b.bench(2, 0, 1);
        // It weighs 6, 5 on benches 0, 1, 2; the saver 5.
        due("benchFor(0)", b.benchFor(0), 3);
        b.ends(15);
        due("benchFor(0), there being no night 15", b.benchFor(0), 0);
    }

    static void p18_votesFor_suchAsThereAre() {
        bounds("votesFor(..)", 0, 4, (b, v) -> b.votesFor(v));
        refusedBy(WreckBoard::new, "votesFor(0) of none", BAD, b -> b.votesFor(0));
    }

    static void p18_votesFor_over() {
        asked(AskedEdgesTests::over, "votesFor(2), being over", 0, b -> b.votesFor(2));
    }

    // ---- promise 19: "BENCH likewise."

    /** A wrecker that weighs 5 on that bench, 4 on each other, against a saver that weighs 4. */
    private static WreckBoard bestOn(int bench) {
        WreckBoard b = new WreckBoard();
        b.member(WRECKER, 4, 1, (bench + 3) % 6);
        b.member(SAVER, 2, 1, bench);
        allShips(b, 0);
        for (int f = 0; f < 6; f++) {
            b.bench(f, 0, f == bench ? 0 : 1);
        }
        return b;
    }

    static void p19_benchFor_eachOfThem() {
        for (int bench = 0; bench < 6; bench++) {
            int best = bench;
            asked(() -> bestOn(best), "benchFor(0), best on " + bench, bench, b -> b.benchFor(0));
        }
    }

    static void p19_benchFor_theLeastOfSeveral() {
        WreckBoard b = carriers(1);
        b.change(0, 3, 5);
        due("benchFor(0), all being alike", b.benchFor(0), 0);
        b.bench(0, 0, 9);
        due("benchFor(0), 0 being too quiet", b.benchFor(0), 1);
        b.bench(1, 0, 9);
        b.bench(2, 0, 9);
        b.bench(3, 0, 9);
        b.bench(4, 0, 9);
        due("benchFor(0), all but 5 being too quiet", b.benchFor(0), 5);
        b.bench(5, 0, 9);
        due("benchFor(0), all being too quiet", b.benchFor(0), 0);
        due("it stays where it is", b.memberOf(0, 3), 5);
    }

    static void p19_benchFor_byZeal() {
        WreckBoard b = new WreckBoard();
        b.member(SAVER, 1, 1, 1);
        allShips(b, 0);
        b.bench(3, 1, 4);
        b.bench(4, 1, 5);
        // By zeal 2 it leans to the dark at first; by 4 when light is below 5, too.
        b.bench(2, 1, 2);
        b.ends(1);
        due("benchFor(0) for a night", b.benchFor(0), 2);
        b.rock(0, 4);
        due("benchFor(0) for a night by light 4", b.benchFor(0), 3);
    }

    static void p19_benchFor_suchAsThereAre() {
        bounds("benchFor(..)", 0, 4, (b, v) -> b.benchFor(v));
        refusedBy(WreckBoard::new, "benchFor(0) of none", BAD, b -> b.benchFor(0));
        asked(AskedEdgesTests::over, "benchFor(2), being over", 0, b -> b.benchFor(2));
    }

    // ---- promise 20: "the first NIGHT of THE REST behind which the FUND is v or more"; "BAD; NONE."

    /** 5 come to the fund each night. */
    private static WreckBoard funds(int first, int end) {
        WreckBoard b = new WreckBoard();
        allShips(b, 7);
        b.rock(1, first);
        b.ends(end);
        return b;
    }

    static void p20_fund_v0To999() {
        bounds("fund(..)", 0, 999, (b, v) -> b.fund(v));
    }

    static void p20_fund_vOrMore() {
        for (int v = 0; v <= 62; v++) {
            due("fund(" + v + ")", funds(0, 12).fund(v), v > 60 ? NONE : Math.max(0, (v + 4) / 5 - 1));
        }
        due("fund(80), the last night being 15", funds(0, 16).fund(80), 15);
        due("fund(81), the last night being 15", funds(0, 16).fund(81), NONE);
    }

    static void p20_fund_ofWhatIsNow() {
        WreckBoard b = funds(50, 12);
        b.night();
        due("fund(0), 55 being there in night 1", b.fund(0), 1);
        due("fund(60)", b.fund(60), 1);
        due("fund(61)", b.fund(61), 2);
    }

    static void p20_fund_999AsHeld() {
        due("fund(999) from 990", funds(990, 12).fund(999), 1);
        due("fund(999) from 994", funds(994, 12).fund(999), 0);
        due("fund(999) from 999", funds(999, 12).fund(999), 0);
        due("fund(999) from 938: 998 in the end", funds(938, 12).fund(999), NONE);
        due("fund(999) from 939: 999 in the end", funds(939, 12).fund(999), 11);
        due("fund(999) from 940: held", funds(940, 12).fund(999), 11);
    }

    static void p20_fund_over() {
        asked(AskedEdgesTests::over, "fund(0), being over", NONE, b -> b.fund(0));
    }

    // ---- promise 21

    static void p21_wrecks_what0To1() {
        bounds("wrecks(..)", 0, 1, (b, v) -> b.wrecks(v));
    }

    static void p21_wrecks_noneAndAll() {
        WreckBoard none = funds(0, 16);
        allShips(none, 3);
        due("wrecks(0) of ships without a value", none.wrecks(0), 0);
        due("wrecks(1)", none.wrecks(1), 0);
        WreckBoard all = funds(0, 16);
        due("wrecks(0), each of 16", all.wrecks(0), 16);
        due("wrecks(1)", all.wrecks(1), 80);
        all.ship(15, 4);
        due("wrecks(0), all but the last", all.wrecks(0), 15);
        all.ends(1);
        due("wrecks(0), one night being left", all.wrecks(0), 1);
    }

    static void p21_wrecks_theFundHeld() {
        due("wrecks(1) from 939", funds(939, 12).wrecks(1), 999);
        due("wrecks(1) from 938", funds(938, 12).wrecks(1), 998);
        due("wrecks(1) from 999", funds(999, 12).wrecks(1), 999);
        due("wrecks(0) from 999", funds(999, 12).wrecks(0), 12);
    }

    static void p21_wrecks_over() {
        asked(AskedEdgesTests::over, "wrecks(0), being over", 0, b -> b.wrecks(0));
        asked(AskedEdgesTests::overRich, "wrecks(1), being over", 40, b -> b.wrecks(1));
    }

    // ---- promise 22: "what -1 how many, 0 .. 5 MEMBERS of that MEMBER's PARTY, as a set (0: it is HEARD). BAD:
    // ---- also no such MEMBER."

    static void p22_parties_what() {
        bounds("parties(..) of five", -1, 4, (b, v) -> b.parties(v));
        asked(WreckBoard::new, "parties(-1) of none", 0, b -> b.parties(-1));
        for (int what = 0; what <= 6; what++) {
            int none = what;
            refusedBy(WreckBoard::new, "parties(" + what + ") of none", BAD, b -> b.parties(none));
        }
        due("parties(5) of six", carriers(6).parties(5), 63);
        due("parties(6) of six", carriers(6).parties(6), BAD);
        due("parties(-2) of six", carriers(6).parties(-2), BAD);
    }

    /** Six that lean neither way, each on a bench of its own. */
    private static WreckBoard apart() {
        WreckBoard b = new WreckBoard();
        for (int k = 0; k < 6; k++) {
            b.member(FARMER, 1, 0, k);
        }
        return b;
    }

    static void p22_parties_whoLeanNeitherWayOnOtherBenches() {
        WreckBoard b = apart();
        due("parties(-1)", b.parties(-1), 6);
        for (int k = 0; k < 6; k++) {
            due("parties(" + k + ")", b.parties(k), 1 << k);
        }
    }

    static void p22_parties_ofOneBench() {
        WreckBoard b = apart();
        b.change(4, 3, 1);
        due("parties(-1)", b.parties(-1), 5);
        due("parties(1)", b.parties(1), 18);
        due("parties(4)", b.parties(4), 18);
        due("parties(0)", b.parties(0), 1);
    }

    static void p22_parties_bothToTheDarkOrBothToTheLight() {
        WreckBoard b = apart();
        b.remake(0, WRECKER);
        b.remake(3, SAVER);
        due("one to the dark, one to the light: parties(-1)", b.parties(-1), 6);
        b.remake(5, WRECKER);
        due("two to the dark: parties(5)", b.parties(5), 33);
        b.remake(2, CHAIR);
        due("two to the light: parties(3)", b.parties(3), 12);
        due("parties(-1)", b.parties(-1), 4);
        b.change(0, 3, 3);
        due("one of each on one bench: parties(2)", b.parties(2), 45);
        due("parties(-1)", b.parties(-1), 3);
    }

    static void p22_parties_oneByTheOther() {
        WreckBoard b = new WreckBoard();
        // 0 and 5 to the dark, 5 and 1 on a bench, 1 and 4 to the light, 4 and 2 on a bench; 3 is alone.
        b.member(WRECKER, 1, 1, 0);
        b.member(SAVER, 1, 1, 1);
        b.member(FARMER, 1, 1, 2);
        b.member(FARMER, 1, 1, 3);
        b.member(SAVER, 1, 1, 2);
        b.member(WRECKER, 1, 1, 1);
        for (int k : new int[] {0, 1, 2, 4, 5}) {
            due("parties(" + k + ")", b.parties(k), 55);
        }
        due("parties(3)", b.parties(3), 8);
        due("parties(-1)", b.parties(-1), 2);
        b.change(5, 4, 1);
        due("parties(0), 5 being heard", b.parties(0), 1);
        due("parties(2), 5 being heard", b.parties(2), 22);
        due("parties(5), being heard", b.parties(5), 0);
        due("parties(-1), 5 being heard", b.parties(-1), 3);
    }

    static void p22_parties_allHeard() {
        WreckBoard b = carriers(6);
        for (int k = 0; k < 6; k++) {
            due("parties(-1)", b.parties(-1), 1);
            b.change(k, 4, 1);
            due("parties(" + k + "), being heard", b.parties(k), 0);
        }
        due("parties(-1), all being heard", b.parties(-1), 0);
    }

    // ---- promise 23: "the first with whom those so far WEIGH more than half of what all do"

    static void p23_power_suchAsThereAre() {
        bounds("power(..)", 0, 4, (b, v) -> b.power(v));
        refusedBy(WreckBoard::new, "power(0) of none", BAD, b -> b.power(0));
    }

    private static void powers(int[] votes, int... want) {
        WreckBoard b = new WreckBoard();
        for (int weight : votes) {
            b.member(WRECKER, weight - 1, 1, 0);
        }
        for (int k = 0; k < want.length; k++) {
            due("power(" + k + ")", b.power(k), want[k]);
            b.change(k, 4, 1);
        }
        for (int k = 0; k < want.length; k++) {
            due("power(" + k + "), all being heard", b.power(k), want[k]);
        }
    }

    static void p23_power_moreThanHalf() {
        powers(new int[] {1}, 1);
        powers(new int[] {4, 4}, 1, 1);
        powers(new int[] {5, 4}, 2, 0);
        powers(new int[] {4, 5}, 0, 2);
        // 4 of 8 isn't more than half; 5 of 9 is.
        powers(new int[] {4, 2, 2}, 4, 1, 1);
        powers(new int[] {5, 2, 2}, 6, 0, 0);
        powers(new int[] {4, 3, 2}, 2, 2, 2);
        powers(new int[] {1, 1, 1, 1}, 6, 6, 6, 6);
        powers(new int[] {3, 1, 1, 1}, 18, 2, 2, 2);
        powers(new int[] {4, 1, 1, 1}, 24, 0, 0, 0);
    }

    static void p23_power_ofSix() {
        powers(new int[] {1, 1, 1, 1, 1, 1}, 120, 120, 120, 120, 120, 120);
        powers(new int[] {5, 1, 1, 1, 1, 1}, 600, 24, 24, 24, 24, 24);
        powers(new int[] {6, 1, 1, 1, 1, 1}, 720, 0, 0, 0, 0, 0);
    }

    static void p23_power_noneWeighs() {
        WreckBoard b = carriers(6);
        b.bench(0, 0, 9);
        for (int k = 0; k < 6; k++) {
            due("power(" + k + ")", b.power(k), 0);
        }
        b.change(4, 3, 1);
        due("power(4), the one that weighs", b.power(4), 720);
        due("power(0)", b.power(0), 0);
    }

    // ---- promises 24 to 26: "A PLAN of n: n NIGHTS (fewer, if it is OVER)"

    static void p24_best_n0To4() {
        bounds("best(..)", 0, 4, (b, v) -> b.best(v));
        for (int n = 0; n <= 4; n++) {
            due("best(" + n + ")", carriers(3).best(n), 2 * n);
        }
    }

    static void p24_best_fewerIfItIsOver() {
        for (int n = 0; n <= 4; n++) {
            due("best(" + n + "), 2 nights being left", carriersTill(3, 2).best(n), Math.min(4, 2 * n));
            due("best(" + n + "), being over", over().best(n), 0);
        }
    }

    static void p24_best_noMembers() {
        WreckBoard b = new WreckBoard();
        for (int n = 0; n <= 4; n++) {
            due("best(" + n + ")", b.best(n), 3 * n);
            due("ways(" + n + ")", b.ways(n), 1);
            due("ith(" + n + ", 0)", b.ith(n, 0), n > 0 ? 0 : NONE);
        }
    }

    static void p25_ith_nAndI() {
        bounds("ith(.., 0)", 0, 4, (b, v) -> b.ith(v, 0));
        bounds("ith(4, ..)", 0, 3, (b, v) -> b.ith(4, v));
    }

    static void p25_ith_hasNotSoMany() {
        for (int n = 0; n <= 4; n++) {
            for (int i = 0; i <= 3; i++) {
                due("ith(" + n + ", " + i + ")", carriers(2).ith(n, i), i < n ? 1 : NONE);
                due("ith(" + n + ", " + i + "), 2 nights being left", carriersTill(2, 2).ith(n, i),
                    i < n && i < 2 ? 1 : NONE);
                due("ith(" + n + ", " + i + "), being over", over().ith(n, i), NONE);
            }
        }
    }

    static void p25_ith_badAheadOfNone() {
        for (int i : beside(0, 3)) {
            refused("ith(0, " + i + ")", BAD, b -> b.ith(0, i));
            refusedBy(AskedEdgesTests::over, "ith(4, " + i + "), being over", BAD, b -> b.ith(4, i));
        }
        refusedBy(AskedEdgesTests::over, "ith(5, 3), being over", BAD, b -> b.ith(5, 3));
        refusedBy(AskedEdgesTests::over, "ith(-1, 3), being over", BAD, b -> b.ith(-1, 3));
    }

    /** Two savers, a wrecker that carries when one of them has lost its vote; who has none keeps still. */
    private static WreckBoard savers() {
        WreckBoard b = new WreckBoard();
        b.member(SAVER, 1, 1, 0);
        b.member(SAVER, 1, 1, 1);
        b.member(WRECKER, 2, 1, 2);
        allShips(b, 0);
        tell(b, "member if votes = 0 keep;");
        return b;
    }

    /** "the FIRST of these is that with the lesser ACT where they are unlike first" */
    static void p25_ith_theLesserWhereTheyAreUnlikeFirst() {
        // 1 and 2, 1 and 3, 2 and 1, 2 and 3 are worth 2.
        WreckBoard b = savers();
        due("best(2)", b.best(2), 2);
        due("ways(2)", b.ways(2), 4);
        due("ith(2, 0)", b.ith(2, 0), 1);
        due("ith(2, 1)", b.ith(2, 1), 2);
    }

    static void p25_ith_0IsTheLeast() {
        WreckBoard b = carriers(3);
        tell(b, "member if night = 1 keep;");
        due("ith(3, 0)", b.ith(3, 0), 1);
        due("ith(3, 1)", b.ith(3, 1), 0);
        due("ith(3, 2)", b.ith(3, 2), 1);
        due("ways(3)", b.ways(3), 3 * 4 * 3);
    }

    static void p25_ith_theSixth() {
        WreckBoard b = carriers(6);
        tell(b, "member if number < 5 keep;");
        for (int i = 0; i < 4; i++) {
            due("ith(4, " + i + ")", b.ith(4, i), 6);
        }
        due("ways(4)", b.ways(4), 1);
    }

    static void p26_ways_n0To4() {
        bounds("ways(..)", 0, 4, (b, v) -> b.ways(v));
        int[] want = {1, 3, 9, 27, 81};
        for (int n = 0; n <= 4; n++) {
            due("ways(" + n + ")", carriers(3).ways(n), want[n]);
            due("ways(" + n + "), 2 nights being left", carriersTill(3, 2).ways(n), want[Math.min(2, n)]);
            due("ways(" + n + "), being over", over().ways(n), 1);
        }
    }

    static void p26_ways_ofTwo() {
        int[] want = {1, 2, 4, 8, 16};
        for (int n = 0; n <= 4; n++) {
            due("ways(" + n + ")", carriers(2).ways(n), want[n]);
        }
    }

    static void p26_ways_oneAndAllOfThem() {
        WreckBoard b = carriers(6);
        tell(b, "member keep;");
        int[] want = {1, 7, 49, 343, 2401};
        for (int n = 0; n <= 4; n++) {
            due("ways(" + n + "), none carrying", b.ways(n), want[n]);
            due("ways(" + n + "), one carrying", carriers(1).ways(n), 1);
        }
    }

    // ---- promises 27, 28: "n (0 to 4), a set of MEMBERS (of such as there are). BAD; NONE."

    static void p27_agenda_n0To4() {
        bounds("agenda(.., 0)", 0, 4, (b, v) -> b.agenda(v, 0));
    }

    static void p27_agenda_ofSuchAsThereAre() {
        bounds("agenda(1, ..)", 0, 31, (b, v) -> b.agenda(1, v));
        refused("agenda(1, 33)", BAD, b -> b.agenda(1, 33));
        refused("agenda(1, 1 << 31 | 1)", BAD, b -> b.agenda(1, LOW | 1));
        refusedBy(WreckBoard::new, "agenda(4, 1) of none", BAD, b -> b.agenda(4, 1));
        due("agenda(4, 0) of none", new WreckBoard().agenda(4, 0), 0);
        due("agenda(4, 64) of six", carriers(6).agenda(4, 64), BAD);
        due("agenda(4, 63) of six", carriers(6).agenda(4, 63), NONE);
    }

    static void p27_agenda_asManyAsThereAreNights() {
        for (int n = 0; n <= 4; n++) {
            for (int set = 0; set < 64; set++) {
                int many = Integer.bitCount(set);
                due("agenda(" + n + ", " + set + ")", carriers(6).agenda(n, set), many <= n ? many : NONE);
                due("agenda(" + n + ", " + set + "), 2 nights being left", carriersTill(6, 2).agenda(n, set),
                    many <= Math.min(2, n) ? many : NONE);
            }
        }
    }

    static void p27_agenda_whoIsHeardAlready() {
        WreckBoard b = carriers(6);
        b.change(5, 4, 1);
        b.change(0, 4, 1);
        due("agenda(0, 33)", b.agenda(0, 33), 0);
        due("agenda(4, 33)", b.agenda(4, 33), 0);
        due("agenda(4, 63)", b.agenda(4, 63), 4);
        due("agenda(3, 63)", b.agenda(3, 63), NONE);
        due("agenda(1, 35)", b.agenda(1, 35), 1);
    }

    static void p27_agenda_over() {
        asked(AskedEdgesTests::over, "agenda(4, 3): heard, being over", 0, b -> b.agenda(4, 3));
        asked(AskedEdgesTests::over, "agenda(4, 0), being over", 0, b -> b.agenda(4, 0));
        asked(AskedEdgesTests::over, "agenda(4, 4), being over", NONE, b -> b.agenda(4, 4));
        refusedBy(AskedEdgesTests::over, "agenda(4, 8), being over", BAD, b -> b.agenda(4, 8));
    }

    static void p27_agenda_theFewestThatAreNot0() {
        // A saver must lose its vote first, then it, or the other one, carries.
        WreckBoard b = savers();
        due("agenda(2, 1): 2, then 1", b.agenda(2, 1), 2);
        due("agenda(4, 1)", b.agenda(4, 1), 2);
        due("agenda(4, 4)", b.agenda(4, 4), 2);
        due("agenda(4, 5)", b.agenda(4, 5), 3);
        due("agenda(4, 3): one of them has no vote, and keeps still", b.agenda(4, 3), NONE);
        // Nobody is to be told in nights that it keeps still in.
        WreckBoard late = carriers(2);
        tell(late, "member if night < 3 keep;");
        due("agenda(4, 2)", late.agenda(4, 2), 1);
        due("agenda(3, 2)", late.agenda(3, 2), NONE);
        due("agenda(4, 3)", late.agenda(4, 3), NONE);
    }

    static void p28_bars_n0To4() {
        bounds("bars(.., 0)", 0, 4, (b, v) -> b.bars(v, 0));
    }

    static void p28_bars_ofSuchAsThereAre() {
        bounds("bars(1, ..)", 0, 31, (b, v) -> b.bars(1, v));
        refused("bars(1, 33)", BAD, b -> b.bars(1, 33));
        refused("bars(1, 1 << 31 | 1)", BAD, b -> b.bars(1, LOW | 1));
        refusedBy(WreckBoard::new, "bars(4, 1) of none", BAD, b -> b.bars(4, 1));
        due("bars(4, 0) of none", new WreckBoard().bars(4, 0), NONE);
        due("bars(4, 64) of six", carriers(6).bars(4, 64), BAD);
    }

    static void p28_bars_theLeastOfThem() {
        for (int set = 0; set < 64; set++) {
            int least = set == 0 ? NONE : Integer.numberOfTrailingZeros(set);
            due("bars(0, " + set + ")", carriers(6).bars(0, set), least);
            due("bars(1, " + set + ")", carriers(6).bars(1, set), NONE);
            due("bars(4, " + set + ")", carriers(6).bars(4, set), NONE);
        }
        WreckBoard b = carriers(6);
        tell(b, "member if number > 2 keep; member if number = 1 keep;");
        due("bars(4, 63)", b.bars(4, 63), 1);
        due("bars(4, 61)", b.bars(4, 61), 3);
        due("bars(4, 37)", b.bars(4, 37), 5);
        due("bars(4, 5)", b.bars(4, 5), NONE);
        due("bars(4, 0)", b.bars(4, 0), NONE);
        b.change(1, 4, 1);
        due("bars(4, 63), 1 being heard", b.bars(4, 63), 3);
        due("bars(0, 2), 1 being heard", b.bars(0, 2), NONE);
    }

    static void p28_bars_eachByAPlanOfItsOwn() {
        WreckBoard b = savers();
        due("bars(2, 7)", b.bars(2, 7), NONE);
        due("bars(1, 7)", b.bars(1, 7), 0);
        due("bars(1, 4)", b.bars(1, 4), 2);
    }

    /** A farmer that leans to the light, and once to the dark; it carries by its last vote. */
    private static WreckBoard waits() {
        WreckBoard b = new WreckBoard();
        b.member(FARMER, 1, 1, 0);
        allShips(b, 0);
        b.ship(2, 12);
        return b;
    }

    static void p27_agenda_nobodyAheadOfIt() {
        due("agenda(3, 1)", waits().agenda(3, 1), 1);
        due("agenda(2, 1)", waits().agenda(2, 1), NONE);
        WreckBoard b = waits();
        acts(b, 1, 0, 1);
        due("told too soon, it has no vote then", b.wouldBe(0, 0, 3), 1);
    }

    static void p28_bars_nobodyAheadOfIt() {
        due("bars(3, 1)", waits().bars(3, 1), NONE);
        due("bars(2, 1)", waits().bars(2, 1), 0);
    }

    static void p28_bars_over() {
        asked(AskedEdgesTests::over, "bars(4, 3): heard, being over", NONE, b -> b.bars(4, 3));
        asked(AskedEdgesTests::over, "bars(4, 7), being over", 2, b -> b.bars(4, 7));
    }

    // ---- promises 29, 30: "a GAME of n (1 to 4)"; "(till it is OVER)"; "NONE: it is OVER."

    static void p29_game_n1To4() {
        bounds("game(..)", 1, 4, (b, v) -> b.game(v));
        int[] want = {0, 2, 2, 4, 4};
        for (int n = 1; n <= 4; n++) {
            // The other one tells nobody.
            due("game(" + n + ")", carriers(3).game(n), want[n]);
            due("game(" + n + "), 1 night being left", carriersTill(3, 1).game(n), 2);
            due("game(" + n + "), 3 nights being left", carriersTill(3, 3).game(n), want[Math.min(3, n)]);
            asked(AskedEdgesTests::over, "game(" + n + "), being over", 0, ofGame(n));
        }
    }

    private static Call ofGame(int n) {
        return b -> b.game(n);
    }

    static void p29_game_noMembers() {
        for (int n = 1; n <= 4; n++) {
            due("game(" + n + ")", new WreckBoard().game(n), 3 * n);
            due("play(" + n + ")", new WreckBoard().play(n), 0);
        }
    }

    /** A saver that trims, and ships worth something in night 1 alone. */
    private static WreckBoard trims(int ship, int light) {
        WreckBoard b = new WreckBoard();
        b.member(SAVER, 9, 1, 0);
        tell(b, "member trim;");
        allShips(b, 0);
        b.ship(1, ship);
        b.rock(0, light);
        return b;
    }

    static void p29_game_theOtherOneWantsLittle() {
        // By light 5 she is lost, for 9, or it is trimmed, for 2 and 1; by 6, if it was trimmed ahead, she goes by, for
        // 1.
        WreckBoard b = trims(14, 5);
        due("game(2): 0 and 3, or 2 and 1", b.game(2), 3);
        due("play(2): the least of both", b.play(2), 0);
        due("best(2): 0 and 9", b.best(2), 9);
        // She is lost anyway: 2 and 9.
        WreckBoard lost = trims(15, 3);
        due("game(2)", lost.game(2), 11);
        due("play(2)", lost.play(2), 1);
        due("best(2): 2, 2 and 9", lost.best(2), 13);
    }

    static void p30_play_n1To4() {
        bounds("play(..)", 1, 4, (b, v) -> b.play(v));
    }

    static void p30_play_theLeastByWhichItComes() {
        for (int n = 1; n <= 4; n++) {
            due("play(" + n + ")", carriers(6).play(n), 1);
            WreckBoard last = carriers(6);
            tell(last, "member if number < 5 keep;");
            due("play(" + n + "), the last one carrying", last.play(n), 6);
            WreckBoard none = carriers(6);
            tell(none, "member keep;");
            due("play(" + n + "), none carrying", none.play(n), 0);
        }
    }

    static void p30_play_asTheOtherOnePlays() {
        // 0, then 3 or 2 and 1; or 2, then 1 or 2 and 1: the other one leaves 3 of each.
        due("play(2)", trims(6, 5).play(2), 0);
        due("game(2)", trims(6, 5).game(2), 3);
        // For the night alone it is 2; so it is if the other one is over ahead of its turn.
        due("play(1)", trims(6, 5).play(1), 1);
        due("game(1)", trims(6, 5).game(1), 2);
        WreckBoard b = trims(6, 5);
        b.ends(1);
        due("play(2), one night being left", b.play(2), 1);
    }

    static void p30_play_over() {
        for (int n = 1; n <= 4; n++) {
            asked(AskedEdgesTests::over, "play(" + n + "), being over", NONE, ofPlay(n));
        }
        due("play(4), 1 night being left", carriersTill(3, 1).play(4), 1);
    }

    private static Call ofPlay(int n) {
        return b -> b.play(n);
    }

    static void p30_play_badAheadOfNone() {
        for (int n : beside(1, 4)) {
            refusedBy(AskedEdgesTests::over, "play(" + n + "), being over", BAD, b -> b.play(n));
            refusedBy(AskedEdgesTests::over, "game(" + n + "), being over", BAD, b -> b.game(n));
        }
    }
}
