import java.util.Arrays;

/** A test for each promise: what is ordinary, the edges that the document names, and what is refused. */
public final class PromiseTests extends Checks {
    public static void main(String[] args) throws IllegalAccessException {
        runAll(PromiseTests.class);
    }

    /**
     * A wrecker of 4 votes, a saver of 3, a farmer of 7 on another bench each: they lean 2, -1, 0 by the ships at
     * first, and weigh 5, 6, 4.
     */
    private static WreckBoard three() {
        WreckBoard b = new WreckBoard();
        b.member(WRECKER, 4, 1, 0);
        b.member(SAVER, 3, 0, 1);
        b.member(FARMER, 7, 2, 2);
        return b;
    }

    /** A wrecker of 4 votes alone: the count is above 0, whatever the ship is. */
    private static WreckBoard wrecker() {
        WreckBoard b = new WreckBoard();
        b.member(WRECKER, 4, 1, 0);
        return b;
    }

    // ---- the board, members

    static void promise01_aNewObject() {
        WreckBoard b = new WreckBoard();
        for (int what = 0; what <= 6; what++) {
            due("many(" + what + ")", b.many(what), 0);
        }
        int[] stands = {0, 12, 0, 0, 0, 6, 5, 0, 1};
        for (int what = 0; what < stands.length; what++) {
            due("state(" + what + ")", b.state(what), stands[what]);
        }
        for (int night = 0; night < 16; night++) {
            due("ship " + night, b.ship(night, 0), 6);
        }
        for (int f = 0; f < 6; f++) {
            due("hush", b.benchOf(f, 0), 0);
            due("zeal", b.benchOf(f, 1), 0);
        }
        due("again()", b.again(), NONE);
        due("seed(0)", b.seed(0), 1);
        due("row(0, 0)", b.row(0, 0), -9);
        due("trace(0)", b.trace(0), NONE);
        for (int i = 0; i < 4; i++) {
            due("item", b.item(i, 0, 0), -11);
            due("taken", b.taken(i, 0), -11);
        }
        due("BAD", WreckBoard.BAD, BAD);
        due("FULL", WreckBoard.FULL, FULL);
        due("NONE", WreckBoard.NONE, NONE);
        due("STATE", WreckBoard.STATE, STATE);
    }

    static void promise02_member() {
        WreckBoard b = new WreckBoard();
        for (int v : beside(1, 5)) {
            due("kind " + v, b.member(v, 1, 1, 1), BAD);
        }
        for (int v : beside(0, 9)) {
            due("votes " + v, b.member(1, v, 1, 1), BAD);
            due("greed " + v, b.member(1, 1, v, 1), BAD);
        }
        for (int v : beside(0, 5)) {
            due("bench " + v, b.member(1, 1, 1, v), BAD);
        }
        due("none has come", b.many(0), 0);
        due("least of all", b.member(1, 0, 0, 0), 0);
        due("most of all", b.member(5, 9, 9, 5), 1);
        for (int k = 2; k < 6; k++) {
            due("member", b.member(k, k, k + 1, k - 2), k);
        }
        due("the seventh", b.member(1, 1, 1, 1), FULL);
        due("bad ahead of full", b.member(6, 1, 1, 1), BAD);
        int[][] want = {{1, 0, 0, 0, 0}, {5, 9, 9, 5, 0}, {2, 2, 3, 0, 0}, {3, 3, 4, 1, 0}};
        for (int k = 0; k < want.length; k++) {
            for (int what = 0; what < 5; what++) {
                due("memberOf(" + k + ", " + what + ")", b.memberOf(k, what), want[k][what]);
            }
        }
    }

    private static void leans(int kind, int greed, int ship, int light, int night, int want) {
        WreckBoard b = new WreckBoard();
        b.member(kind, 1, greed, 3);
        allShips(b, 0);
        for (int i = 0; i < night; i++) {
            b.night();
        }
        b.ship(night, ship);
        b.rock(0, light);
        String call = "kind " + kind + ", greed " + greed + ", ship " + ship + ", light " + light + ", night " + night;
        due(call, b.memberOf(0, 5), want > 0 ? DARK : want < 0 ? BRIGHT : NEITHER);
        // With zeal as high as it leans to the light, it leans neither way; with 1 more to the dark.
        if (want <= 0) {
            b.bench(3, 1, -want);
            due(call + ", zeal " + -want, b.memberOf(0, 5), NEITHER);
            b.bench(3, 1, 1 - want);
            due(call + ", zeal " + (1 - want), b.memberOf(0, 5), DARK);
            b.bench(2, 1, 9);
        }
    }

    static void promise03_memberOf_leans() {
        leans(WRECKER, 3, 0, 5, 0, 1);
        leans(WRECKER, 0, 12, 5, 1, 1);
        leans(SAVER, 9, 12, 4, 0, -3);
        leans(SAVER, 9, 12, 5, 1, -1);
        leans(SAVER, 9, 12, 9, 0, -1);
        leans(CHAIR, 9, 12, 4, 0, -3);
        leans(CHAIR, 9, 12, 5, 2, -1);
        leans(CHAIR, 9, 12, 4, 1, 0);
        leans(CHAIR, 9, 12, 5, 3, 0);
        leans(FARMER, 0, 8, 5, 0, 0);
        leans(FARMER, 1, 8, 5, 0, 1);
        leans(FARMER, 9, 4, 5, 0, 0);
        leans(FARMER, 9, 3, 5, 0, -1);
        leans(FARMER, 0, 12, 5, 0, 2);
        leans(LAD, 5, 8, 5, 0, -5);
        leans(LAD, 5, 12, 5, 0, -2);
        leans(LAD, 5, 4, 5, 1, 0);
        leans(LAD, 5, 2, 5, 0, 1);
        leans(WRECKER, 9, 0, 5, 12, 1);
    }

    static void promise03_memberOf_weighs() {
        WreckBoard b = new WreckBoard();
        int[][] wants = {{WRECKER, 4, 5}, {SAVER, 3, 6}, {FARMER, 7, 4}, {LAD, 9, 3}, {CHAIR, 2, 8}, {LAD, 3, 2}};
        for (int[] want : wants) {
            b.member(want[0], want[1], 0, 2);
        }
        for (int k = 0; k < wants.length; k++) {
            due("weighs", b.memberOf(k, 6), wants[k][2]);
        }
        b.bench(2, 0, 3);
        b.bench(1, 0, 9);
        for (int k = 0; k < wants.length; k++) {
            due("weighs less hush 3", b.memberOf(k, 6), Math.max(0, wants[k][2] - 3));
        }
    }

    /** What one weighs with 0, 1, .. 9 votes, whatever its number. */
    private static void weighsByVotes(int kind, int number, int... want) {
        WreckBoard b = new WreckBoard();
        for (int k = 0; k < number; k++) {
            b.member(WRECKER, 1, 1, 1);
        }
        b.member(kind, 0, 0, 0);
        for (int votes = 0; votes < want.length; votes++) {
            b.change(number, 1, votes);
            due("kind " + kind + ", number " + number + ", votes " + votes, b.memberOf(number, 6), want[votes]);
        }
    }

    static void promise03_memberOf_weighsByVotes() {
        for (int number : new int[] {0, 4}) {
            weighsByVotes(WRECKER, number, 1, 2, 3, 4, 5, 6, 7, 8, 9, 10);
            weighsByVotes(SAVER, number, 0, 2, 4, 6, 8, 10, 12, 14, 16, 18);
            // Half of the votes and 1, cut: none with none.
            weighsByVotes(FARMER, number, 0, 1, 1, 2, 2, 3, 3, 4, 4, 5);
            weighsByVotes(LAD, number, 0, 1, 1, 2, 2, 3, 3, 3, 3, 3);
        }
        weighsByVotes(CHAIR, 0, 0, 2, 4, 6, 8, 10, 12, 14, 16, 18);
        weighsByVotes(CHAIR, 4, 4, 6, 8, 10, 12, 14, 16, 18, 20, 22);
    }

    static void promise03_memberOf_whatGoesByWhatFarmersWeigh() {
        WreckBoard b = new WreckBoard();
        b.member(WRECKER, 1, 1, 0);
        b.member(LAD, 4, 0, 1);
        allShips(b, 13);
        // 2 to the dark, 2 to the light.
        due("the count", b.state(8), NEITHER);
        due("would", b.memberOf(0, 7), 0);
        due("power: 2 of 4 isn't more than half", b.power(0) * 10 + b.power(1), 11);
        b.remake(1, FARMER);
        due("the count: both to the dark", b.state(8), DARK);
        due("power", b.power(0) * 10 + b.power(1), 11);
        WreckBoard none = new WreckBoard();
        none.member(FARMER, 0, 0, 0);
        allShips(none, 13);
        due("who weighs nothing carries nothing", none.state(8), NEITHER);
        due("would", none.memberOf(0, 7), 0);
        due("on", none.on(1), 1);
        due("when", none.when(0), NONE);
        due("best", none.best(2), 2);
        due("agenda", none.agenda(4, 1), NONE);
        due("bars", none.bars(4, 1), 0);
        due("game", none.game(3), 3);
        due("votes for it", none.votesFor(0), 1);
        none.change(0, 1, 1);
        due("with 1 of votes it does", none.on(1), 3);
        due("when", none.when(0), 0);
    }

    static void promise03_memberOf_wouldAndWill() {
        WreckBoard b = three();
        // 5 to the dark, 6 to the light.
        due("dim isn't carried", b.memberOf(0, 7), 0);
        due("will, by no rule", b.memberOf(0, 8), 0);
        due("rules", tell(b, "wrecker keep; saver trim; member if votes = 7 and light > 4 trim;"), 3);
        due("will", b.memberOf(0, 8), 1);
        due("will", b.memberOf(1, 8), 2);
        due("will", b.memberOf(2, 8), 2);
        due("keep carries not", b.memberOf(0, 7), 0);
        due("trim would", b.memberOf(1, 7), 1);
        b.change(1, 4, 1);
        due("who is heard would not", b.memberOf(1, 7), 0);
        b.rock(0, 4);
        due("will by light", b.memberOf(2, 8), 0);
        b.change(0, 1, 5);
        due("a count of 0 carries neither", b.state(8), 1);
        due("dim", b.memberOf(2, 7), 0);
    }

    static void promise03_memberOf_wouldByTheCount() {
        WreckBoard b = new WreckBoard();
        b.member(WRECKER, 6, 1, 0);
        b.member(SAVER, 3, 0, 1);
        int[] votes = {6, 5, 4};
        // 7, 6, 5 to the dark, 6 to the light.
        for (int i = 0; i < votes.length; i++) {
            b.change(0, 1, votes[i]);
            b.rules();
            due("dim, the count being " + (1 - i), b.memberOf(0, 7), i == 0 ? 1 : 0);
            tell(b, "member trim;");
            due("trim, the count being " + (1 - i), b.memberOf(0, 7), i == 2 ? 1 : 0);
        }
    }

    static void promise03_memberOf_refuses() {
        WreckBoard b = three();
        for (int v : beside(0, 2)) {
            due("k " + v, b.memberOf(v, 0), BAD);
        }
        for (int v : beside(0, 8)) {
            due("what " + v, b.memberOf(0, v), BAD);
        }
    }

    static void promise04_change() {
        WreckBoard b = three();
        int[] most = {0, 9, 9, 5, 1};
        for (int what = 1; what <= 4; what++) {
            int was = b.memberOf(1, what);
            for (int v : beside(0, most[what])) {
                due("change to " + v, b.change(1, what, v), BAD);
            }
            due("what it was", b.change(1, what, most[what]), was);
            due("what it is", b.memberOf(1, what), most[what]);
            due("what it was", b.change(1, what, 0), most[what]);
            due("what it is", b.memberOf(1, what), 0);
        }
        due("of another", b.memberOf(0, 1), 4);
        for (int what : beside(1, 4)) {
            due("what " + what, b.change(1, what, 1), BAD);
        }
        for (int k : beside(0, 2)) {
            due("k " + k, b.change(k, 1, 1), BAD);
        }
        b.change(2, 4, 1);
        due("heard", b.state(4), 4);
        b.change(0, 4, 1);
        due("heard", b.state(4), 5);
        due("heard still", b.change(0, 4, 1), 1);
        b.change(2, 4, 0);
        due("heard", b.state(4), 1);
    }

    static void promise05_remake() {
        WreckBoard b = three();
        b.change(0, 4, 1);
        due("remake", b.remake(0, LAD), WRECKER);
        due("kind", b.memberOf(0, 0), LAD);
        due("votes", b.memberOf(0, 1), 4);
        due("greed", b.memberOf(0, 2), 1);
        due("heard", b.memberOf(0, 4), 1);
        due("weighs", b.memberOf(0, 6), 2);
        due("remake", b.remake(0, WRECKER), LAD);
        for (int kind : beside(1, 5)) {
            due("kind " + kind, b.remake(0, kind), BAD);
        }
        for (int k : beside(0, 2)) {
            due("k " + k, b.remake(k, 1), BAD);
        }
        due("kind", b.memberOf(0, 0), WRECKER);
    }

    static void promise06_ship() {
        WreckBoard b = new WreckBoard();
        due("ship", b.ship(0, 15), 6);
        due("ship", b.ship(0, 0), 15);
        due("ship", b.ship(15, 9), 6);
        due("ship", b.ship(15, 9), 9);
        due("that of now", b.state(5), 0);
        for (int v : beside(0, 15)) {
            due("night " + v, b.ship(v, 1), BAD);
            due("ship " + v, b.ship(1, v), BAD);
        }
        due("as it was", b.ship(1, 1), 6);
    }

    static void promise07_bench() {
        WreckBoard b = new WreckBoard();
        for (int what = 0; what < 2; what++) {
            due("bench", b.bench(5, what, 9), 0);
            due("bench", b.bench(5, what, 3 + what), 9);
            for (int v : beside(0, 9)) {
                due("v " + v, b.bench(5, what, v), BAD);
            }
            for (int f : beside(0, 5)) {
                due("f " + f, b.bench(f, what, 1), BAD);
            }
        }
        for (int what : beside(0, 1)) {
            due("what " + what, b.bench(5, what, 1), BAD);
        }
        due("hush", b.bench(5, 0, 0), 3);
        due("zeal", b.bench(5, 1, 0), 4);
        due("of another", b.bench(4, 1, 0), 0);
    }

    static void promise08_benchOf() {
        WreckBoard b = new WreckBoard();
        b.bench(0, 0, 4);
        b.bench(0, 1, 5);
        b.bench(5, 1, 9);
        due("hush", b.benchOf(0, 0), 4);
        due("zeal", b.benchOf(0, 1), 5);
        due("hush", b.benchOf(5, 0), 0);
        due("zeal", b.benchOf(5, 1), 9);
        for (int f : beside(0, 5)) {
            due("f " + f, b.benchOf(f, 0), BAD);
        }
        for (int what : beside(0, 1)) {
            due("what " + what, b.benchOf(0, what), BAD);
        }
    }

    static void promise09_rock() {
        WreckBoard b = new WreckBoard();
        due("light", b.rock(0, 9), 5);
        due("light", b.rock(0, 0), 9);
        due("light is", b.state(6), 0);
        due("fund", b.rock(1, 999), 0);
        due("fund", b.rock(1, 10), 999);
        due("fund is", b.state(7), 10);
        due("fund", b.rock(1, 0) + b.rock(1, 10), 10);
        for (int v : beside(0, 9)) {
            due("light " + v, b.rock(0, v), BAD);
        }
        for (int v : beside(0, 999)) {
            due("fund " + v, b.rock(1, v), BAD);
        }
        for (int what : beside(0, 1)) {
            due("what " + what, b.rock(what, 1), BAD);
        }
        due("light", b.rock(0, 0), 0);
        due("fund", b.rock(1, 10), 10);
    }

    static void promise10_ends() {
        WreckBoard b = new WreckBoard();
        due("ends", b.ends(16), 12);
        due("ends", b.ends(1), 16);
        due("ends", b.ends(5), 1);
        b.night();
        b.night();
        due("below night", b.ends(1), STATE);
        for (int v : beside(1, 16)) {
            due("ends " + v, b.ends(v), BAD);
        }
        due("0, though night is 2", b.ends(0), BAD);
        due("at night", b.ends(2), 5);
        due("over", b.state(3), 1);
        due("ends", b.ends(3), 2);
        due("not over", b.state(3), 0);
    }

    static void promise11_anew() {
        WreckBoard b = wrecker();
        b.member(WRECKER, 2, 0, 0);
        b.rock(1, 50);
        b.ends(9);
        tell(b, "member if number = 1 trim;");
        b.sheet(0, 0, 1);
        b.write(0, 0, 2);
        b.goAll(0, 0, 1);
        due("votes lost", b.memberOf(1, 1), 1);
        b.night();
        b.rock(0, 2);
        due("heard", b.state(4), 1);
        due("anew", b.anew(), 2);
        int[] stands = {0, 9, 0, 0, 0, 6, 5, 0};
        for (int what = 0; what < stands.length; what++) {
            due("state(" + what + ")", b.state(what), stands[what]);
        }
        due("votes stay", b.memberOf(1, 1), 1);
        due("rules stay", b.many(1), 1);
        due("anew", b.anew(), 0);
    }

    static void promise12_state() {
        WreckBoard b = three();
        b.ends(16);
        due("score", b.night(), b.state(2));
        due("night", b.state(0), 1);
        due("end", b.state(1), 16);
        b.ship(1, 13);
        due("ship", b.state(5), 13);
        b.change(1, 4, 1);
        due("heard", b.state(4), 2);
        due("dark: 5 and 4 more than 6", b.state(8), DARK);
        b.ship(1, 1);
        due("bright: 6 and 4", b.state(8), BRIGHT);
        due("not over", b.state(3), 0);
        b.ship(15, 15);
        for (int i = 1; i < 16; i++) {
            b.night();
        }
        due("over", b.state(3), 1);
        due("night", b.state(0), 16);
        due("no ship behind night 15", b.state(5), 0);
        for (int what : beside(0, 8)) {
            due("what " + what, b.state(what), BAD);
        }
        due("none leans", new WreckBoard().state(8), NEITHER);
    }

    // ---- the rules

    static void promise13_feed() {
        WreckBoard b = new WreckBoard();
        for (int n : beside(1, 8)) {
            due("n " + n, b.feed(0, n), BAD);
        }
        due("any bytes", b.feed(-1, 8), 8);
        due("can't stand there", b.rules(), -100);
        due("used up", b.many(5), 0);
        String text = "lad dim;";
        long eight = 0;
        for (int i = 7; i >= 0; i--) {
            eight = eight << 8 | text.charAt(i);
        }
        due("the lowest of eight first", b.feed(eight, 8), 8);
        due("what is above n isn't taken", b.feed(eight << 24 | 0x202020, 3), 11);
        due("one rule", b.rules(), 1);
        for (int i = 1; i <= 24; i++) {
            due("feed", b.feed(eight, 8), 8 * i);
        }
        due("feed", b.feed(0x2020202020202020L, 7), 199);
        due("201", b.feed(0, 2), FULL);
        due("bad ahead of full", b.feed(0, 9), BAD);
        due("199 still", b.many(5), 199);
        due("200", b.feed(0x20, 1), 200);
        due("201", b.feed(0, 1), FULL);
        due("the ninth rule", b.rules(), -164);
    }

    private static void rules(String text, int want) {
        WreckBoard b = wrecker();
        due("rules() of \"" + text + "\"", tell(b, text), want);
        due("the tape is used up", b.many(5), 0);
        due("as many are kept", b.many(1), want < 0 ? 0 : want);
    }

    static void promise14_rules_forms() {
        rules("", 0);
        rules("   ", 0);
        rules("lad dim;", 1);
        rules("  member   keep  ;  chair trim ; ", 2);
        rules("member dim;wrecker dim;saver dim;chair dim;farmer keep;lad trim;lad dim;lad dim;", 8);
        rules("lad if 3<night dim;", 1);
        rules("lad if 3<4dim;", 1);
        rules("lad if greed=votes and light>number or not 0=0 keep;", 1);
        rules("lad if not not(((1<2)))dim;", 1);
        rules("lad if(1<2)and(2<3)or(3<4)and not(4<5)dim;", 1);
        rules("lad if 9999=0009 dim;", 1);
    }

    /** The fault is where the sign ^ stands in the line beneath. */
    private static void fault(String text, String mark) {
        rules(text, -100 - mark.indexOf('^'));
    }

    static void promise14_rules_faults() {
        fault("x",
              "^");
        fault("lad",
              "   ^");
        fault("lad  ",
              "     ^");
        fault("lad dim",
              "       ^");
        fault("lad dim; lad",
              "            ^");
        fault("laddim;",
              "^");
        fault("lad  kept;",
              "     ^");
        fault("lad dim lad",
              "        ^");
        fault("lad dim;;",
              "        ^");
        fault("Lad dim;",
              "^");
        fault("lad\ndim;",
              "   ^");
        fault("lad \u00e9",
              "    ^");
        fault("lad if dim;",
              "       ^");
        fault("lad if 1 dim;",
              "         ^");
        fault("lad if 1 2 dim;",
              "         ^");
        fault("lad if 1<dim;",
              "         ^");
        fault("lad if 1<=2 dim;",
              "         ^");
        fault("lad if 1<2 < 3 dim;",
              "           ^");
        fault("lad if 1<2 ) dim;",
              "           ^");
        fault("lad if (1<2 dim;",
              "            ^");
        fault("lad if (1<2",
              "           ^");
        fault("lad if ((1)<2) dim;",
              "          ^");
        fault("lad if (night) dim;",
              "             ^");
        fault("lad if 1<2 and dim;",
              "               ^");
        fault("lad if 1<2 or or 1<2 dim;",
              "              ^");
        fault("lad if not dim;",
              "           ^");
        fault("lad if ((( 1<2 ))) and ((((1<2)))) dim;",
              "                          ^");
        fault("dim dim;",
              "^");
        fault("; lad dim;",
              "^");
        fault("lad if 1=1 if;",
              "           ^");
        fault("lad trim if 1=1;",
              "         ^");
        fault("lad if 1(2 dim;",
              "        ^");
        fault("lad if 1 9999 2 dim;",
              "         ^");
        fault("lad if night number night dim;",
              "             ^");
        fault("lad if 12345<2 dim;",
              "       ^");
        fault("lad if 1<00002 dim;",
              "         ^");
        fault("lad if fog<2 dim;",
              "       ^");
        fault("lad if lad<2 dim;",
              "       ^");
        fault("lad dim 7",
              "        ^");
        fault("lad dim;lad dim;lad dim;lad dim;lad dim;lad dim;lad dim;lad dim; lad dim;",
              "                                                                 ^");
    }

    static void promise14_rules_inPlaceOfAll() {
        WreckBoard b = wrecker();
        due("two", tell(b, "wrecker trim; wrecker keep;"), 2);
        due("trim", b.memberOf(0, 8), 2);
        due("a fault", tell(b, "wrecker keep; x"), -114);
        due("the rules stay", b.many(1), 2);
        due("trim", b.memberOf(0, 8), 2);
        due("one", tell(b, "wrecker keep;"), 1);
        due("keep", b.memberOf(0, 8), 1);
        due("none", b.rules(), 0);
        due("dim", b.memberOf(0, 8), 0);
    }

    static void promise14_rules_allTheTapeHolds() {
        WreckBoard b = wrecker();
        feed(b, ";".repeat(200));
        due("200 that can't stand there", b.rules(), -100);
        feed(b, "a".repeat(200));
        due("one name of 200", b.rules(), -100);
        due("nothing of an earlier tape", tell(b, "lad"), -103);
        due("nothing of an earlier tape", tell(b, "lad if 1"), -108);
        String longest = "member if " + "1=1 and ".repeat(22) + "1=1 trim;";
        for (int i = 0; i < 9; i++) {
            due("a long one", tell(b, longest), 1);
            due("trim", b.memberOf(0, 8), 2);
        }
        feed(b, "lad if " + "(".repeat(193));
        due("the fourth of 193", b.rules(), -110);
        String nots = "member if " + "not ".repeat(45) + "1=2 keep;";
        due("not, 45 times", tell(b, nots), 1);
        due("keep", b.memberOf(0, 8), 1);
        due("not, 44 times", tell(b, nots.replaceFirst("not ", "")), 1);
        due("dim", b.memberOf(0, 8), 0);
    }

    private static void holds(String condition, boolean want) {
        WreckBoard b = wrecker();
        b.member(WRECKER, 6, 7, 0);
        b.night();
        b.night();
        b.rock(0, 8);
        due("rule", tell(b, "member if " + condition + " keep; member trim;"), 2);
        due(condition, b.memberOf(1, 8), want ? 1 : 2);
    }

    static void promise14_rules_conditions() {
        // Of member 1 in night 2: greed 7, votes 6, light 8.
        holds("night = 2", true);
        holds("greed = 7", true);
        holds("votes = 6", true);
        holds("light = 8", true);
        holds("number = 1", true);
        holds("1 < 2", true);
        holds("2 < 2", false);
        holds("3 > 2", true);
        holds("2 > 2", false);
        holds("2 = 3", false);
        holds("0010 = 10", true);
        holds("9999 > 9998", true);
        holds("greed > votes", true);
        holds("0 < number", true);
        holds("0 = number", false);
        holds("10 > 9", true);
        holds("1234 > 1233", true);
        holds("1234 < 1235", true);
        holds("not night = 2", false);
        holds("not not night = 2", true);
        holds("1 = 1 or 1 = 1 and 1 = 2", true);
        holds("(1 = 1 or 1 = 1) and 1 = 2", false);
        holds("1 = 2 and 1 = 1 or 1 = 1", true);
        holds("1 = 2 and (1 = 1 or 1 = 1)", false);
        holds("not 1 = 2 and 1 = 2", false);
        holds("not (1 = 2 and 1 = 2)", true);
        holds("1 = 2 or 1 = 2 or 1 = 1", true);
        holds("1 = 1 and 1 = 1 and 1 = 2", false);
        holds("1 = 1 or (1 = 2 or 1 = 2 and 1 = 2)", true);
        holds("1 = 1 and (1 = 2 or (1 = 1 and (1 = 1 or 1 = 2 and 1 = 2)))", true);
        holds("not (1 = 1 and not (2 = 2 and not (3 = 3)))", false);
        holds("(1=1 or 1=2) and (1=1 and (1=2 or not (1=2)))", true);
    }

    static void promise14_rules_kinds() {
        String[] names = {"member", "wrecker", "saver", "chair", "farmer", "lad"};
        String[] under = {"12345", "1", "23", "3", "45", "5"};
        for (int of = 0; of < names.length; of++) {
            WreckBoard b = new WreckBoard();
            tell(b, names[of] + " trim;");
            for (int kind = 1; kind <= 5; kind++) {
                b.member(kind, 1, 1, 1);
                boolean told = under[of].indexOf('0' + kind) >= 0;
                due(names[of] + " tells " + names[kind], b.memberOf(kind - 1, 8), told ? 2 : 0);
            }
        }
        WreckBoard b = new WreckBoard();
        b.member(LAD, 1, 1, 1);
        tell(b, "saver trim; farmer if 1 = 2 trim; farmer keep; lad trim; member dim;");
        due("the first that tells it", b.memberOf(0, 8), 1);
    }

    // ---- nights

    static void promise15_night_ships() {
        WreckBoard b = new WreckBoard();
        b.ends(6);
        int[] ships = {6, 9, 10, 3, 15, 4};
        for (int i = 0; i < ships.length; i++) {
            b.ship(i, ships[i]);
        }
        // Light is 5: lost below 6 and 9, not below 3.
        int[] worth = {3, 1, 6, 0, 9, 1};
        int[] fund = {5, 5, 15, 15, 30, 30};
        int score = 0;
        for (int i = 0; i < ships.length; i++) {
            due("worth of " + ships[i], b.night(), worth[i]);
            score += worth[i];
            due("fund", b.state(7), fund[i]);
            due("score", b.state(2), score);
            due("night", b.state(0), i + 1);
            due("light", b.state(6), 5);
        }
        due("over", b.night(), STATE);
        due("score", b.state(2), score);
        due("night", b.state(0), 6);
    }

    static void promise15_night_dimAndTrim() {
        WreckBoard b = wrecker();
        b.member(WRECKER, 3, 1, 0);
        allShips(b, 5);
        // The least that would carry dims: 3 is not below 3, then nearer to 5.
        due("dim, a ship not lost", b.night(), 3);
        due("heard", b.state(4), 1);
        due("light", b.state(6), 4);
        due("dim, a ship lost", b.night(), 5);
        due("heard", b.state(4), 3);
        due("light", b.state(6), 3);
        due("nobody is left", b.night(), 1);
        due("light", b.state(6), 4);
        due("votes stay", b.memberOf(0, 1), 4);
        WreckBoard t = new WreckBoard();
        t.member(SAVER, 3, 1, 0);
        allShips(t, 4);
        due("dim would not carry", t.night(), 1);
        due("nobody is told", t.memberOf(0, 1), 3);
        tell(t, "saver trim;");
        t.rock(0, 8);
        due("trim", t.night(), 3);
        due("held at 9, then nearer", t.state(6), 8);
        WreckBoard d = wrecker();
        d.rock(0, 1);
        d.ship(0, 1);
        due("dim at 1", d.night(), 2);
        due("held at 0, then nearer", d.state(6), 1);
    }

    static void promise15_night_lightByOneStep() {
        for (int light = 0; light <= 9; light++) {
            WreckBoard b = new WreckBoard();
            allShips(b, 0);
            b.rock(0, light);
            b.night();
            due("nearer to 5 from " + light, b.state(6), light < 5 ? light + 1 : light > 5 ? light - 1 : 5);
            WreckBoard dims = wrecker();
            dims.rock(0, light);
            dims.night();
            int dimmed = Math.max(0, light - 2);
            due("dim from " + light, dims.state(6), dimmed < 5 ? dimmed + 1 : dimmed > 5 ? dimmed - 1 : 5);
            WreckBoard trims = new WreckBoard();
            trims.member(SAVER, 1, 0, 0);
            tell(trims, "saver trim;");
            trims.rock(0, light);
            trims.night();
            int trimmed = Math.min(9, light + 2);
            due("trim from " + light, trims.state(6), trimmed < 5 ? trimmed + 1 : trimmed > 5 ? trimmed - 1 : 5);
        }
    }

    static void promise15_night_votesLost() {
        WreckBoard b = new WreckBoard();
        b.member(SAVER, 2, 0, 0);
        acts(b, 1, 1, 1);
        int[] votes = {1, 0, 0};
        for (int i = 0; i < 3; i++) {
            b.goAll(0, i, 1);
            due("dim isn't carried", b.memberOf(0, 1), votes[i]);
            due("not heard", b.memberOf(0, 4), 0);
        }
        WreckBoard k = wrecker();
        tell(k, "wrecker keep;");
        acts(k, 1);
        due("keep: 3, as the ship is lost", k.goAll(0, 0, 1), 3);
        due("keep: nothing", k.memberOf(0, 1) * 10 + k.memberOf(0, 4), 40);
    }

    static void promise15_night_fundHeld() {
        WreckBoard b = new WreckBoard();
        allShips(b, 15);
        b.rock(1, 980);
        due("worth", b.night(), 9);
        due("fund", b.state(7), 995);
        due("worth", b.night(), 9);
        due("fund held", b.state(7), 999);
    }

    static void promise15_night_theFactsOfThen() {
        WreckBoard b = wrecker();
        tell(b, "member if night < 2 keep; member dim;");
        due("night 0: keep", b.night(), 3);
        due("night 1: keep", b.night(), 3);
        due("night 2: dim", b.night(), 5);
        due("heard", b.state(4), 1);
    }

    static void promise16_on() {
        WreckBoard b = wrecker();
        due("0", b.on(0), 0);
        due("1: dim, and lost", b.on(1), 5);
        due("2", b.on(2), 8);
        due("12 are left", b.on(16), 38);
        due("12", b.on(12), 38);
        due("11", b.on(11), 35);
        due("changes nothing", b.state(0) + b.state(4) + b.state(7) + b.state(2), 0);
        due("light", b.state(6), 5);
        for (int n : beside(0, 16)) {
            due("n " + n, b.on(n), BAD);
        }
        b.ends(1);
        due("over behind one", b.on(5), 5);
        b.night();
        due("over", b.on(5), 0);
    }

    static void promise17_when() {
        WreckBoard b = three();
        b.change(0, 1, 6);
        // 7 to the dark, 6 to the light: dim is carried by each in turn, while light is 4 or less too.
        due("the first", b.when(0), 0);
        due("the second", b.when(1), 1);
        due("the third", b.when(2), 2);
        b.ends(2);
        due("over ahead of it", b.when(2), NONE);
        b.change(0, 4, 1);
        due("heard now", b.when(0), NONE);
        due("sooner then", b.when(1), 0);
        due("nothing is changed", b.state(4), 1);
        for (int k : beside(0, 2)) {
            due("k " + k, b.when(k), BAD);
        }
        b.night();
        due("in the night as it is numbered", b.when(2), 1);
        b.night();
        due("over", b.when(2), NONE);
    }

    static void promise18_votesFor() {
        WreckBoard b = three();
        // The wrecker weighs its votes and 1, the saver 6: dim is carried from 6 votes on.
        due("wrecker", b.votesFor(0), 6);
        due("votes stay", b.memberOf(0, 1), 4);
        due("saver: 4 is less than 5", b.votesFor(1), 0);
        due("farmer: all the same", b.votesFor(2), 0);
        due("votes stay", b.memberOf(2, 1), 7);
        for (int k : beside(0, 2)) {
            due("k " + k, b.votesFor(k), BAD);
        }
        b.ends(1);
        due("one night is left", b.votesFor(0), 6);
        b.night();
        due("over: all are worth 0", b.votesFor(0), 0);
    }

    static void promise19_benchFor() {
        WreckBoard b = three();
        b.bench(0, 0, 3);
        b.bench(1, 0, 2);
        b.bench(2, 0, 5);
        b.bench(3, 0, 5);
        b.bench(4, 0, 1);
        // The saver weighs 4 there: the wrecker weighs more than that, 5, on bench 5 alone.
        due("wrecker", b.benchFor(0), 5);
        due("it stays", b.memberOf(0, 3), 0);
        // The wrecker weighs 2: the saver 1 on bench 2, or 3.
        due("saver", b.benchFor(1), 2);
        b.bench(0, 0, 0);
        due("several", b.benchFor(0), 0);
        for (int k : beside(0, 2)) {
            due("k " + k, b.benchFor(k), BAD);
        }
    }

    // ---- the fund, wrecks, parties, powers

    static void promise20_fund() {
        WreckBoard b = new WreckBoard();
        due("0: the first night", b.fund(0), 0);
        due("5", b.fund(5), 0);
        due("6", b.fund(6), 1);
        due("60", b.fund(60), 11);
        due("61", b.fund(61), NONE);
        b.rock(1, 7);
        b.night();
        due("12 now: the next night", b.fund(1), 1);
        due("17", b.fund(17), 1);
        due("18", b.fund(18), 2);
        due("999", b.fund(999), NONE);
        for (int v : beside(0, 999)) {
            due("v " + v, b.fund(v), BAD);
        }
        due("nothing is changed", b.state(0) * 100 + b.state(7), 112);
        b.ends(1);
        due("over", b.fund(0), NONE);
    }

    static void promise21_wrecks() {
        WreckBoard b = new WreckBoard();
        b.ship(1, 5);
        b.ship(2, 3);
        b.ship(3, 14);
        due("lost: all but 1 and 2", b.wrecks(0), 10);
        due("fund: 9 of 5, 15", b.wrecks(1), 60);
        b.rock(1, 990);
        due("held", b.wrecks(1), 999);
        due("those past 999 as well", b.wrecks(0), 10);
        b.night();
        due("lost", b.wrecks(0), 9);
        due("now", b.state(7), 995);
        for (int what : beside(0, 1)) {
            due("what " + what, b.wrecks(what), BAD);
        }
        b.ends(1);
        due("over", b.wrecks(0), 0);
        due("over", b.wrecks(1), 995);
    }

    static void promise22_parties() {
        WreckBoard b = new WreckBoard();
        due("no members", b.parties(-1), 0);
        due("no such", b.parties(0), BAD);
        // Lean: 2, -1, 0, -1, 0, 1 (by the lads' sign, in a night of value 1).
        b.member(WRECKER, 1, 1, 0);
        b.member(SAVER, 1, 0, 1);
        b.member(FARMER, 1, 0, 2);
        b.member(CHAIR, 1, 0, 3);
        b.member(LAD, 1, 0, 2);
        due("wrecker, saver and chair, farmer and lad", b.parties(-1), 3);
        due("0", b.parties(0), 1);
        due("1", b.parties(1), 10);
        due("2", b.parties(2), 20);
        due("3", b.parties(3), 10);
        due("4", b.parties(4), 20);
        b.member(WRECKER, 1, 1, 3);
        due("one by the other", b.parties(0), 1 + 2 + 8 + 32);
        due("two", b.parties(-1), 2);
        b.change(5, 4, 1);
        due("who is heard parts them", b.parties(0), 1);
        due("and has none", b.parties(5), 0);
        due("three", b.parties(-1), 3);
        b.change(0, 4, 1);
        due("two", b.parties(-1), 2);
        b.change(0, 4, 0);
        b.change(5, 4, 0);
        b.change(3, 4, 1);
        due("by leaning to the dark", b.parties(5), 33);
        due("six", b.parties(6), BAD);
        for (int what : beside(-1, 5)) {
            due("what " + what, b.parties(what), BAD);
        }
        // Two that lean neither way hang together by their bench alone.
        b.change(4, 3, 4);
        due("farmer", b.parties(2), 4);
    }

    static void promise23_power() {
        WreckBoard b = three();
        // 5, 6, 4 of 15: any two are more than half.
        for (int k = 0; k < 3; k++) {
            due("power", b.power(k), 2);
        }
        b.change(0, 4, 1);
        due("heard or not", b.power(0), 2);
        b.change(1, 1, 9);
        due("5, 18, 4 of 27: the saver alone", b.power(1), 6);
        due("5, 18, 4", b.power(0), 0);
        b.change(1, 1, 5);
        b.change(0, 1, 5);
        // 6, 10, 4 of 20: 10 isn't more than half.
        due("saver", b.power(1), 4);
        due("wrecker", b.power(0), 1);
        due("farmer", b.power(2), 1);
        for (int k : beside(0, 2)) {
            due("k " + k, b.power(k), BAD);
        }
        WreckBoard one = wrecker();
        due("alone", one.power(0), 1);
        one.bench(0, 0, 9);
        due("none weighs", one.power(0), 0);
        WreckBoard six = new WreckBoard();
        for (int k = 0; k < 6; k++) {
            six.member(WRECKER, 2, 0, 0);
        }
        six.remake(3, SAVER);
        six.change(3, 1, 9);
        due("18 of 33: all orders", six.power(3), 720);
        due("none", six.power(0), 0);
        six.change(0, 1, 3);
        six.change(1, 1, 4);
        // 4, 5, 3, 18, 3, 3 of 36: 18 isn't more than half, but with any one more.
        due("all but those in which it is first", six.power(3), 600);
        due("those behind it at once", six.power(5), 24);
        six.remake(3, WRECKER);
        six.change(3, 1, 2);
        six.change(0, 1, 2);
        six.change(1, 1, 2);
        for (int k = 0; k < 6; k++) {
            due("of six alike", six.power(k), 120);
        }
    }

    // ---- plans

    static void promise24_best() {
        WreckBoard b = wrecker();
        due("0", b.best(0), 0);
        due("1", b.best(1), 5);
        due("2", b.best(2), 10);
        due("4: who is heard is told again", b.best(4), 20);
        for (int n : beside(0, 4)) {
            due("n " + n, b.best(n), BAD);
        }
        due("nothing is changed", b.state(0) + b.state(4) + b.state(2) + b.state(7), 0);
        b.ends(2);
        due("fewer", b.best(4), 10);
        b.night();
        b.night();
        due("over", b.best(4), 0);
        // To dim now would pass the ship by; none of the ships is lost but by two dims.
        WreckBoard later = wrecker();
        later.ship(0, 1);
        later.ship(1, 13);
        due("2 and 9 and 2", later.best(2), 13);
        due("2", later.best(1), 2);
    }

    static void promise25_ith() {
        WreckBoard b = three();
        // No dim is carried: 5 to 6. The saver's votes are 1 less by being told, it weighs 4 then.
        due("best", b.best(2), 8);
        due("the saver first", b.ith(2, 0), 2);
        due("then the least one that carries", b.ith(2, 1), 1);
        due("nothing would be better in 1", b.ith(1, 0), 0);
        due("not so many", b.ith(2, 2), NONE);
        due("not so many", b.ith(0, 0), NONE);
        due("the least ones that carry", b.ith(4, 2) * 10 + b.ith(4, 3), 11);
        b.ends(1);
        due("not so many", b.ith(2, 1), NONE);
        due("it has 1", b.ith(2, 0), 0);
        for (int n : beside(0, 4)) {
            due("n " + n, b.ith(n, 0), BAD);
        }
        for (int i : beside(0, 3)) {
            due("i " + i, b.ith(4, i), BAD);
            due("i " + i, b.ith(0, i), BAD);
        }
    }

    static void promise26_ways() {
        WreckBoard b = three();
        due("0", b.ways(0), 1);
        due("1: each act is worth 3", b.ways(1), 4);
        due("2: the saver, then any of three", b.ways(2), 3);
        for (int n : beside(0, 4)) {
            due("n " + n, b.ways(n), BAD);
        }
        b.ends(1);
        due("fewer", b.ways(4), 4);
        b.night();
        due("over", b.ways(4), 1);
        WreckBoard six = new WreckBoard();
        for (int k = 0; k < 6; k++) {
            six.member(SAVER, 0, 0, k);
        }
        due("all of them", six.ways(4), 7 * 7 * 7 * 7);
    }

    static void promise27_agenda() {
        WreckBoard b = three();
        due("nobody", b.agenda(4, 0), 0);
        due("nobody, 0 nights", b.agenda(0, 0), 0);
        due("saver told, then itself", b.agenda(2, 2), 2);
        due("in 1", b.agenda(1, 2), NONE);
        due("saver told, then two", b.agenda(3, 5), 3);
        due("all", b.agenda(4, 7), 4);
        due("all in 3", b.agenda(3, 7), NONE);
        due("none told", b.state(4), 0);
        b.change(0, 4, 1);
        due("heard already", b.agenda(0, 1), 0);
        due("heard already", b.agenda(4, 1), 0);
        due("all", b.agenda(4, 7), 3);
        for (int n : beside(0, 4)) {
            due("n " + n, b.agenda(n, 0), BAD);
        }
        for (int set : new int[] {8, 9, -1, LOW, HIGH}) {
            due("set " + set, b.agenda(2, set), BAD);
        }
        b.ends(1);
        due("fewer nights", b.agenda(4, 2), NONE);
        due("bad with no members", new WreckBoard().agenda(1, 1), BAD);
    }

    /** A farmer that carries dim in night 1, if it wasn't told in night 0: it would have lost a vote by that. */
    private static WreckBoard waiting() {
        WreckBoard b = new WreckBoard();
        b.member(FARMER, 3, 0, 0);
        b.bench(0, 0, 1);
        b.ship(0, 0);
        b.ship(1, 12);
        return b;
    }

    static void promise27_agenda_waits() {
        WreckBoard b = waiting();
        due("nobody, then the farmer", b.agenda(2, 1), 1);
        due("night 0 alone", b.agenda(1, 1), NONE);
        acts(b, 1, 1);
        due("told twice it carries nothing: 0, and 1", b.wouldBe(0, 0, 2), 1);
    }

    static void promise28_bars_waits() {
        due("nobody, then the farmer", waiting().bars(2, 1), NONE);
        due("night 0 alone", waiting().bars(1, 1), 0);
    }

    static void promise28_bars() {
        WreckBoard b = three();
        due("nobody", b.bars(0, 0), NONE);
        due("in 0", b.bars(0, 6), 1);
        due("in 1", b.bars(1, 7), 0);
        due("in 1", b.bars(1, 4), 2);
        due("in 2: each behind some, if not together", b.bars(2, 7), NONE);
        tell(b, "farmer keep;");
        due("who keeps", b.bars(4, 7), 2);
        due("who keeps", b.bars(4, 3), NONE);
        b.change(2, 4, 1);
        due("heard already", b.bars(4, 7), NONE);
        for (int n : beside(0, 4)) {
            due("n " + n, b.bars(n, 0), BAD);
        }
        for (int set : new int[] {8, 9, -1, LOW, HIGH}) {
            due("set " + set, b.bars(2, set), BAD);
        }
        b.ends(1);
        due("fewer nights", b.bars(4, 3), 0);
    }

    // ---- a game, strangers, lots

    static void promise29_game() {
        WreckBoard b = wrecker();
        due("1: dim, and lost", b.game(1), 5);
        due("2: nobody is told by the other", b.game(2), 8);
        due("3", b.game(3), 13);
        due("4", b.game(4), 16);
        for (int n : beside(1, 4)) {
            due("n " + n, b.game(n), BAD);
        }
        due("nothing is changed", b.state(0) + b.state(4), 0);
        b.ends(1);
        due("till it is over", b.game(4), 5);
        b.night();
        due("over", b.game(4), 0);
        // The other one trims, so that the ship passes by.
        WreckBoard t = new WreckBoard();
        t.member(SAVER, 5, 0, 0);
        tell(t, "saver if night = 1 trim; saver keep;");
        t.ship(1, 14);
        due("3, then 2 and 1", t.game(2), 6);
        t.ship(1, 15);
        due("3, then 9", t.game(2), 12);
    }

    static void promise30_play() {
        WreckBoard b = wrecker();
        b.member(WRECKER, 4, 0, 0);
        due("the least", b.play(1), 1);
        due("the least", b.play(4), 1);
        WreckBoard s = three();
        due("none is better", s.play(1), 0);
        // Told first the saver weighs 4 then: the other one lets it be; it pays in the third night.
        due("the saver", s.play(3), 2);
        due("value", s.game(3), 11);
        // In 2 the second NIGHT is the other one's: it is for nothing then to tell the saver.
        due("nobody", s.play(2), 0);
        // The last of all is the one that carries.
        WreckBoard last = wrecker();
        last.member(WRECKER, 1, 1, 0);
        tell(last, "member if number = 0 keep;");
        due("the last", last.play(1), 2);
        for (int n : beside(1, 4)) {
            due("n " + n, b.play(n), BAD);
        }
        b.ends(1);
        b.night();
        due("over", b.play(2), NONE);
        due("bad ahead of that", b.play(5), BAD);
    }

    static void promise31_report() {
        WreckBoard b = new WreckBoard();
        for (int k : beside(0, 15)) {
            due("k " + k, b.report(k, 0, 1, 1), BAD);
        }
        for (int asked : beside(0, 1)) {
            due("asked " + asked, b.report(1, asked, 1, 1), BAD);
        }
        for (int v : beside(0, 9)) {
            due("light " + v, b.report(1, 0, Math.min(v, 5), Math.max(v, 5)), BAD);
        }
        for (int v : beside(0, 999)) {
            due("fund " + v, b.report(1, 1, Math.min(v, 5), Math.max(v, 5)), BAD);
        }
        due("most below least", b.report(1, 0, 5, 4), BAD);
        due("most below least", b.report(1, 1, 999, 0), BAD);
        due("report", b.report(0, 0, 0, 9), 0);
        due("report", b.report(15, 1, 0, 999), 1);
        due("report", b.report(15, 1, 999, 999), 2);
        due("report", b.report(15, 0, 0, 0), 3);
        due("report", b.report(1, 0, 1, 1), 4);
        due("report", b.report(1, 0, 1, 1), 5);
        due("full", b.report(1, 0, 1, 1), FULL);
        due("bad ahead of full", b.report(1, 0, 2, 1), BAD);
        due("many", b.many(3), 6);
    }

    static void promise32_forget() {
        WreckBoard b = new WreckBoard();
        due("none", b.forget(), 0);
        b.report(0, 0, 3, 3);
        b.report(0, 0, 4, 4);
        due("lone", b.lone(0), 0);
        due("two", b.forget(), 2);
        due("none", b.forget(), 0);
        due("many", b.many(3), 0);
        due("lone", b.lone(0), 500);
        due("report", b.report(0, 0, 3, 3), 0);
        due("lone", b.lone(0), 50);
    }

    static void promise33_lone() {
        WreckBoard b = new WreckBoard();
        due("all", b.lone(0), 500);
        due("kind", b.lone(1), WRECKER);
        due("greed", b.lone(2), 0);
        due("light", b.lone(3), 0);
        for (int what : beside(0, 3)) {
            due("what " + what, b.lone(what), BAD);
        }
        b.report(0, 0, 9, 9);
        // 9, then 7 less 1 by dims, 9 less 1 by trims, 8 by none.
        b.report(1, 0, 8, 8);
        // Value 1: savers and chairs trim, farmers and lads do nothing.
        due("lone", b.lone(0), 40);
        due("kind", b.lone(1), SAVER);
        due("light", b.lone(3), 9);
        b.ship(1, 8);
        // Value 2: farmers lean to the dark by greed, lads to the light; chairs do nothing in night 1.
        b.report(2, 0, 5, 5);
        due("farmers with greed: 8, 6, 5", b.lone(0), 9);
        due("kind", b.lone(1), FARMER);
        due("greed", b.lone(2), 1);
        b.report(2, 0, 6, 6);
        due("none", b.lone(0), 0);
        for (int what = 1; what <= 3; what++) {
            due("none", b.lone(what), NONE);
        }
    }

    static void promise33_lone_funds() {
        WreckBoard b = three();
        b.rock(1, 100);
        b.bench(0, 1, 9);
        b.ends(1);
        b.night();
        b.report(0, 1, 0, 0);
        due("fund 0 then", b.lone(0), 500);
        // Lost, if light is below 6 behind what it does: wreckers from 0 .. 7, savers below 4, all of 5 kinds.
        b.report(1, 1, 5, 5);
        due("80, 40, 40, 60, 60", b.lone(0), 280);
        due("light", b.lone(3), 0);
        b.forget();
        b.report(1, 1, 0, 4);
        due("the others", b.lone(0), 220);
        due("light", b.lone(3), 8);
        b.forget();
        allShips(b, 15);
        b.report(15, 1, 225, 999);
        // Chairs bring it to 9, where she isn't lost, from 7 on alone.
        due("behind over as well: wreckers, chairs from 0 .. 6, farmers", b.lone(0), 100 + 70 + 100);
        b.forget();
        b.report(15, 1, 1, 224);
        due("lads and savers that came by some", b.lone(1), SAVER);
    }

    static void promise34_liar() {
        WreckBoard b = new WreckBoard();
        due("no reports", b.liar(), NONE);
        b.report(0, 0, 3, 3);
        due("some fit", b.liar(), NONE);
        b.report(0, 0, 4, 4);
        due("either: the least", b.liar(), 0);
        b.report(0, 0, 4, 5);
        due("the first", b.liar(), 0);
        b.report(0, 0, 3, 3);
        due("not by one alone", b.liar(), NONE);
        b.forget();
        b.report(0, 0, 4, 5);
        b.report(0, 0, 5, 6);
        b.report(0, 0, 7, 7);
        due("the last", b.liar(), 2);
        b.forget();
        b.report(0, 0, 4, 4);
        b.report(0, 0, 3, 3);
        due("either, the other way: the least", b.liar(), 0);
        b.forget();
        b.report(0, 0, 5, 5);
        b.report(0, 0, 4, 4);
        b.report(0, 0, 4, 5);
        b.report(0, 0, 4, 4);
        due("the first, by one that is so by all others", b.liar(), 0);
        b.forget();
        b.report(0, 0, 4, 5);
        b.report(0, 0, 5, 6);
        b.report(0, 0, 7, 7);
        due("none fits", b.lone(0), 0);
    }

    static void promise35_seed() {
        WreckBoard b = new WreckBoard();
        due("seed", b.seed(LOW), 1);
        due("seed", b.seed(HIGH), LOW);
        due("seed", b.seed(0), HIGH);
        b.lot();
        due("0 becomes 12345", b.seed(7), 12345);
        b.lot();
        due("wraps", b.seed(1), 7 * 1103515245 + 12345);
    }

    static void promise36_lot() {
        WreckBoard b = new WreckBoard();
        for (int k = 0; k < 3; k++) {
            b.member(WRECKER, 4, 1, 0);
        }
        allShips(b, 1);
        b.ends(16);
        int z = -5;
        b.seed(z);
        int score = 0;
        int heard = 0;
        for (int i = 0; i < 16; i++) {
            z = z * 1103515245 + 12345;
            int act = (z >>> 16) % 4;
            due("lot", b.lot(), act == 0 ? 0 : 2);
            score += act == 0 ? 0 : 2;
            heard |= act == 0 ? 0 : 1 << act - 1;
            due("heard", b.state(4), heard);
            due("score", b.state(2), score);
            due("night", b.state(0), i + 1);
        }
        due("over", b.lot(), STATE);
        due("z stays then", b.seed(0), z);
    }

    static void promise37_times() {
        WreckBoard b = wrecker();
        allShips(b, 0);
        b.ends(3);
        // Each night is worth 2, if the act is 1.
        int z = 1;
        int[] due = new int[8];
        for (int time = 0; time < 40; time++) {
            int worth = 0;
            for (int i = 0; i < 3; i++) {
                z = z * 1103515245 + 12345;
                worth += (z >>> 16) % 2 * 2;
            }
            for (int v = 0; v <= worth; v++) {
                due[v]++;
            }
        }
        for (int v = 0; v < due.length; v++) {
            due("times(40, " + v + ")", b.times(40, v), due[v]);
        }
        due("once", b.times(1, 0), 1);
        due("999", b.times(40, 999), 0);
        due("z is as it was", b.seed(1), 1);
        due("all is as it was", b.state(0) + b.state(2) + b.state(4), 0);
        for (int n : beside(1, 40)) {
            due("n " + n, b.times(n, 0), BAD);
        }
        for (int v : beside(0, 999)) {
            due("v " + v, b.times(1, v), BAD);
        }
        b.night();
        b.night();
        b.night();
        due("over: each is worth 0", b.times(7, 0), 7);
        due("over", b.times(7, 1), 0);
        due("z", b.seed(1), 1);
    }

    // ---- rows

    private static void rowsAre(WreckBoard b, int[][] want) {
        due("rows", b.many(4), want.length);
        for (int k = 0; k < want.length; k++) {
            for (int what = 0; what < 3; what++) {
                due("row(" + k + ", " + what + ")", b.row(k, what), want[k][what]);
            }
        }
        due("no more", b.row(want.length, 0), -9);
    }

    static void promise38_prove() {
        WreckBoard b = three();
        due("prove", b.prove(2), 2);
        rowsAre(b, new int[][] {{2, 3, 0}, {1, 5, 1}});
        due("nothing is changed", b.state(0) + b.state(4) + b.state(7) + b.state(2), 0);
        due("votes", b.memberOf(1, 1), 3);
        for (int n : beside(0, 4)) {
            due("n " + n, b.prove(n), BAD);
        }
        due("the rows stay", b.many(4), 2);
        due("prove", b.prove(4), 4);
        due("rows", b.many(4), 4);
        b.ends(1);
        due("fewer", b.prove(4), 1);
        rowsAre(b, new int[][] {{0, 3, 0}});
        due("none", b.prove(0), 0);
        rowsAre(b, new int[][] {});
    }

    static void promise39_row() {
        WreckBoard b = wrecker();
        due("no rows", b.row(0, 0), -9);
        b.prove(2);
        due("act", b.row(1, 0), 1);
        due("worth", b.row(1, 1), 5);
        due("heard", b.row(1, 2), 1);
        for (int k : beside(0, 1)) {
            due("k " + k, b.row(k, 0), -9);
        }
        for (int what : beside(0, 2)) {
            due("what " + what, b.row(0, what), -9);
        }
        b.night();
        due("rows stay", b.row(1, 1), 5);
    }

    static void promise40_alterRow() {
        WreckBoard b = wrecker();
        due("no rows", b.alterRow(0, 0, 1), -9);
        b.prove(2);
        due("act", b.alterRow(1, 0, HIGH), 1);
        due("act", b.alterRow(1, 0, LOW), HIGH);
        due("it is", b.row(1, 0), LOW);
        due("worth", b.alterRow(0, 1, -1), 5);
        due("heard", b.alterRow(0, 2, 63), 1);
        for (int k : beside(0, 1)) {
            due("k " + k, b.alterRow(k, 0, 5), -9);
        }
        for (int what : beside(0, 2)) {
            due("what " + what, b.alterRow(0, what, 5), -9);
        }
        rowsAre(b, new int[][] {{1, -1, 63}, {LOW, 5, 1}});
    }

    static void promise41_judge() {
        WreckBoard b = three();
        due("no rows", b.judge(), 0);
        b.prove(3);
        due("right", b.judge(), 0);
        due("nothing is changed", b.state(0) + b.state(4) + b.state(7), 0);
        int[] acts = {4, -1, HIGH};
        for (int act : acts) {
            int was = b.alterRow(2, 0, act);
            due("no act " + act, b.judge(), 3);
            b.alterRow(2, 0, was);
        }
        for (int k = 2; k >= 0; k--) {
            b.alterRow(k, 1, b.row(k, 1) + 1);
            due("worth of row " + k, b.judge(), k + 1);
        }
        b.prove(3);
        b.alterRow(1, 2, 7);
        due("heard", b.judge(), 2);
        b.prove(3);
        b.ends(2);
        due("over", b.judge(), 3);
        b.ends(9);
        b.change(1, 4, 1);
        due("as all is now", b.judge(), 1);
        // Another plan that is told rightly is right.
        WreckBoard other = wrecker();
        other.prove(1);
        other.alterRow(0, 0, 0);
        other.alterRow(0, 1, 3);
        other.alterRow(0, 2, 0);
        due("not the best", other.judge(), 0);
    }

    // ---- the host

    static void promise42_sheet() {
        WreckBoard b = new WreckBoard();
        for (int at : beside(0, 3)) {
            due("sheet " + at, b.sheet(at, 0, 1), BAD);
        }
        for (int sort : beside(-1, 4)) {
            due("sort " + sort, b.sheet(0, sort, 1), BAD);
            due("sort " + sort + " ahead of size", b.sheet(0, sort, -1), BAD);
        }
        due("41", b.sheet(0, 0, 41), BAD);
        due("far above", b.sheet(0, 0, HIGH), BAD);
        due("below 0", b.sheet(0, 0, -1), -14);
        due("far below 0", b.sheet(0, 4, LOW), -14);
        due("missing still", b.item(0, 0, 0), -11);
        for (int sort = 0; sort <= 4; sort++) {
            due("sheet", b.sheet(3, sort, 40), 1);
            due("item", b.item(3, sort, 39), 0);
            due("outside", b.item(3, sort, 40), -12);
            b.write(3, 39, 1);
        }
        due("none in it", b.sheet(3, 0, 0), 1);
        due("outside", b.item(3, 0, 0), -12);
        due("again all 0", b.sheet(3, 0, 40) + b.item(3, 0, 39), 1);
        for (int i = 0; i < 40; i++) {
            b.write(3, i, 5);
        }
        b.sheet(3, 0, 40);
        for (int i = 0; i < 40; i++) {
            due("all 0", b.item(3, 0, i), 0);
        }
        due("refused", b.sheet(3, 0, -2), -14);
        due("as it was", b.item(3, 0, 39), 0);
        due("missing, whatever n", b.sheet(3, -1, HIGH), 1);
        due("missing", b.item(3, 0, 0), -11);
        due("missing, whatever n", b.sheet(3, -1, LOW), 1);
    }

    private static void narrows(int sort, int v, int want) {
        WreckBoard b = new WreckBoard();
        b.sheet(1, sort, 2);
        due("write", b.write(1, 1, v), 1);
        due(v + " for sort " + sort, b.item(1, sort, 1), want);
        due("the other", b.item(1, sort, 0), 0);
    }

    static void promise43_write() {
        int[] all = {0, 1, -1, 127, 128, 255, 256, -129, 32767, 32768, 65536, -32769, LOW, HIGH};
        for (int v : all) {
            narrows(0, v, (byte) v);
            narrows(1, v, (short) v);
            narrows(2, v, v);
            narrows(3, v, v);
            narrows(4, v, v == 0 ? 0 : 1);
        }
        WreckBoard b = new WreckBoard();
        for (int at : beside(0, 3)) {
            due("sheet " + at, b.write(at, 0, 1), BAD);
        }
        due("missing", b.write(0, 0, 1), -11);
        due("missing ahead of outside", b.write(0, -1, 1), -11);
        for (int at = 0; at < 4; at++) {
            b.sheet(at, 2, 1);
            due("write", b.write(at, 0, 7 + at), 1);
        }
        for (int at = 0; at < 4; at++) {
            due("each its own", b.item(at, 2, 0), 7 + at);
        }
        b.sheet(0, 2, 3);
        for (int i : beside(0, 2)) {
            due("place " + i, b.write(0, i, 1), -12);
        }
        b.sheet(0, 2, 0);
        due("none in it", b.write(0, 0, 1), -12);
    }

    static void promise44_item() {
        WreckBoard b = new WreckBoard();
        for (int sort = 0; sort <= 4; sort++) {
            due("missing", b.item(2, sort, -5), -11);
        }
        for (int sort = 0; sort <= 4; sort++) {
            b.sheet(2, sort, 3);
            b.write(2, 2, -12);
            due("item", b.item(2, sort, 2), sort == 4 ? 1 : -12);
            for (int as = 0; as <= 4; as++) {
                due("sort " + sort + " as " + as, b.item(2, as, 1), as == sort ? 0 : -13);
                due("sort " + sort + " as " + as + ", outside", b.item(2, as, 3), as == sort ? -12 : -13);
            }
            for (int i : beside(0, 2)) {
                due("place " + i, b.item(2, sort, i), -12);
            }
        }
        for (int sort : beside(0, 4)) {
            due("sort " + sort, b.item(2, sort, 0), BAD);
            due("sort " + sort + " of what is missing", b.item(0, sort, 0), BAD);
        }
        for (int at : beside(0, 3)) {
            due("sheet " + at, b.item(at, 0, 0), BAD);
        }
    }

    static void promise45_goAll() {
        WreckBoard b = wrecker();
        acts(b, 0, 1, 2, -1, 0, 1);
        due("none", b.goAll(0, 0, 0), 0);
        due("none, from a place outside", b.goAll(0, 77, 0), 0);
        due("2 and -1 are left out", b.goAll(0, 1, 4), 5 + 3);
        due("night", b.state(0), 2);
        due("score", b.state(2), 8);
        due("heard", b.state(4), 1);
        due("what stood ahead", b.goAll(0, 4, 3), -12);
        due("was done", b.state(0), 4);
        due("score", b.state(2), 16);
        due("outside at once", b.goAll(0, -1, 2), -12);
        due("far outside", b.goAll(0, HIGH, 20), -12);
        due("nothing", b.state(0), 4);
        b.ends(5);
        due("till it is over", b.goAll(0, 4, 2), 3);
        due("over", b.goAll(0, 0, 6), 0);
        due("over, and outside", b.goAll(0, 0, 7), -12);
        due("night", b.state(0), 5);
        for (int at : beside(0, 3)) {
            due("sheet " + at, b.goAll(at, 0, 1), BAD);
        }
        for (int n : beside(0, 20)) {
            due("n " + n, b.goAll(0, 0, n), BAD);
            due("n " + n, b.goAll(1, 0, n), BAD);
        }
        due("missing", b.goAll(1, 9, 0), -11);
        for (int sort = 1; sort <= 4; sort++) {
            b.sheet(1, sort, 1);
            due("sort " + sort, b.goAll(1, 9, 0), -13);
        }
        b.sheet(3, 0, 20);
        due("20", b.goAll(3, 0, 20), 0);
        b.ends(6);
        due("but one is over by then", b.goAll(3, 0, 20), 3);
    }

    static void promise46_wouldBe() {
        WreckBoard b = wrecker();
        acts(b, 0, 1, 1, 2, 0);
        due("none", b.wouldBe(0, 0, 0), 0);
        due("none, from a place outside", b.wouldBe(0, -7, 0), 0);
        due("three", b.wouldBe(0, 0, 3), 3 + 5 + 5);
        due("two", b.wouldBe(0, 1, 2), 10);
        due("no act", b.wouldBe(0, 2, 2), STATE);
        due("no act ahead of outside", b.wouldBe(0, 3, 9), STATE);
        due("outside", b.wouldBe(0, 4, 2), -12);
        due("outside", b.wouldBe(0, -1, 1), -12);
        due("outside", b.wouldBe(0, HIGH, 20), -12);
        due("nothing is changed", b.state(0) + b.state(2) + b.state(4) + b.state(7), 0);
        b.ends(2);
        due("two", b.wouldBe(0, 0, 2), 8);
        due("over ahead of the third", b.wouldBe(0, 0, 3), STATE);
        b.write(0, 2, -1);
        due("nor that", b.wouldBe(0, 2, 1), STATE);
        acts(b, 0, 0);
        due("outside, when it would be over", b.wouldBe(0, 0, 3), -12);
        b.sheet(3, 0, 2);
        due("sheet 3", b.wouldBe(3, 0, 2), 6);
        for (int at : beside(0, 3)) {
            due("sheet " + at, b.wouldBe(at, 0, 1), BAD);
        }
        for (int n : beside(0, 20)) {
            due("n " + n, b.wouldBe(0, 0, n), BAD);
            due("n " + n, b.wouldBe(1, 0, n), BAD);
        }
        due("missing", b.wouldBe(1, 9, 0), -11);
        for (int sort = 1; sort <= 4; sort++) {
            b.sheet(1, sort, 1);
            due("sort " + sort, b.wouldBe(1, 9, 0), -13);
        }
    }

    static void promise47_shelf() {
        WreckBoard b = new WreckBoard();
        b.member(LAD, 1, 1, 1);
        b.member(SAVER, 1, 1, 1);
        for (int at : beside(0, 3)) {
            due("shelf " + at, b.shelf(at, 2, 0), BAD);
        }
        for (int what : beside(0, 2)) {
            due("what " + what, b.shelf(0, what, 0), BAD);
        }
        for (int n : beside(0, 1)) {
            due("member " + n, b.shelf(0, 0, n), BAD);
        }
        for (int n : beside(0, 3)) {
            due("sheet " + n, b.shelf(0, 1, n), BAD);
        }
        due("member", b.shelf(3, 0, 1), 1);
        due("taken", b.taken(3, SAVER), 1);
        due("refused", b.shelf(3, 0, 2), BAD);
        due("it stays", b.taken(3, SAVER), 1);
        due("of a missing sheet", b.shelf(3, 1, 3), 1);
        due("nothing", b.taken(3, 10), -11);
        b.sheet(3, 1, 7);
        due("still nothing", b.taken(3, 11), -11);
        b.sheet(0, 4, 2);
        due("the row of sheet 0", b.shelf(0, 1, 0), 1);
        due("taken", b.taken(0, 14), 2);
        due("a row", b.shelf(3, 1, 3), 1);
        due("taken", b.taken(3, 11), 7);
        b.sheet(3, 2, 9);
        due("the row stays, when the sheet is another", b.taken(3, 11), 7);
        due("nothing, whatever n", b.shelf(3, 2, HIGH), 1);
        due("nothing", b.taken(3, 11), -11);
    }

    static void promise48_taken() {
        WreckBoard b = new WreckBoard();
        for (int kind = 1; kind <= 5; kind++) {
            b.member(kind, 1, 1, 1);
        }
        String[] above = {"", "01", "02", "023", "04", "045"};
        for (int kind = 1; kind <= 5; kind++) {
            b.shelf(1, 0, kind - 1);
            for (int as = 0; as <= 5; as++) {
                boolean is = above[kind].indexOf('0' + as) >= 0;
                due("kind " + kind + " as " + as, b.taken(1, as), is ? kind - 1 : -13);
            }
            for (int as = 10; as <= 14; as++) {
                due("kind " + kind + " as " + as, b.taken(1, as), -13);
            }
        }
        b.remake(4, WRECKER);
        due("as it is now", b.taken(1, WRECKER), 4);
        due("as it is now", b.taken(1, LAD), -13);
        for (int sort = 0; sort <= 4; sort++) {
            b.sheet(2, sort, 5 + sort);
            b.shelf(2, 1, 2);
            for (int as = 0; as <= 14; as++) {
                int want = as > 5 && as < 10 ? BAD : as == 10 + sort ? 5 + sort : -13;
                due("sort " + sort + " as " + as, b.taken(2, as), want);
            }
        }
        for (int as : new int[] {-1, 6, 9, 15, LOW, HIGH}) {
            due("as " + as, b.taken(2, as), BAD);
            due("as " + as + " of nothing", b.taken(0, as), BAD);
        }
        for (int at : beside(0, 3)) {
            due("shelf " + at, b.taken(at, 0), BAD);
        }
        due("nothing as a member", b.taken(0, 0), -11);
        due("nothing as a row", b.taken(0, 14), -11);
        WreckBoard later = new WreckBoard();
        later.keep();
        later.member(WRECKER, 1, 1, 1);
        later.shelf(0, 0, 0);
        later.again();
        due("no such member at the time", later.taken(0, 0), -11);
        due("nor act", later.act(0, 0, 1), 0);
        later.member(SAVER, 1, 1, 1);
        due("by its number", later.taken(0, SAVER), 0);
    }

    private static void acts(int kind, int k, int bench, int act, int x, int want, int... bodies) {
        WreckBoard b = new WreckBoard();
        for (int i = 0; i < k; i++) {
            b.member(WRECKER, 1, 1, 0);
        }
        b.member(kind, 1, 1, bench);
        b.shelf(2, 0, k);
        String call = "act " + act + " of kind " + kind + ", number " + k + ", bench " + bench + ", x " + x;
        due(call, b.act(2, act, x), want);
        due(call + ": bodies", b.many(6), bodies.length);
        for (int i = 0; i < bodies.length; i++) {
            due(call + ": body " + i, b.trace(i), bodies[i]);
        }
        due(call + ": no more", b.trace(bodies.length), NONE);
    }

    static void promise49_act_bodies() {
        // Number 2, bench 3: x * 2 - 2, that and 9, what x leaves by 1.
        acts(WRECKER, 2, 3, 0, 5, 8 ^ 6, 20, 10);
        acts(WRECKER, 2, 3, 1, 5, (8 ^ 6) + 9, 11, 20, 10);
        acts(SAVER, 2, 3, 0, 5, 8, 10);
        acts(SAVER, 2, 3, 1, 5, 34, 30, 11, 10);
        acts(CHAIR, 2, 3, 0, 5, -10, 50, 10);
        acts(CHAIR, 2, 3, 1, 5, -2, 30, 11, 50, 10);
        // Number 3, bench 5: what x leaves by 4.
        acts(WRECKER, 3, 5, 2, 7, 3, 12);
        acts(WRECKER, 3, 5, 2, -7, -3, 12);
        acts(WRECKER, 3, 5, 3, 7, (11 ^ 6) + 15 - 3, 13, 11, 20, 10, 12);
        acts(SAVER, 3, 5, 3, 7, 52 - 3, 13, 30, 11, 10, 12);
        acts(FARMER, 3, 5, 2, 7, 4, 40, 12);
        acts(FARMER, 3, 5, 3, 7, 26 - 4, 13, 11, 10, 40, 12);
        acts(LAD, 3, 5, 1, 7, -26, 60, 11, 10);
        acts(LAD, 3, 5, 2, 7, 4 ^ 3, 61, 40, 12, 10);
        acts(LAD, 3, 5, 3, 7, -26 - (4 ^ 3), 13, 60, 11, 10, 61, 40, 12, 10);
        // Seconds of 7: ((7 - 9) * 2 - 3 + 15) * 2; of its bench, 5: ((5 - 9) * 2 - 3 + 15) * 2.
        acts(CHAIR, 3, 5, 3, 7, 16 - 3 + 8, 51, 13, 30, 11, 50, 10, 12, 30, 11, 50, 10);
        acts(FARMER, 3, 5, 0, 7, 11, 10);
        acts(LAD, 3, 5, 0, 7, 11, 10);
        acts(CHAIR, 3, 5, 2, 7, 3, 12);
        acts(SAVER, 3, 5, 2, 7, 3, 12);
        acts(FARMER, 3, 5, 1, 7, 26, 11, 10);
    }

    static void promise49_act_partedBy0() {
        acts(WRECKER, 4, 0, 2, 7, -15, 12);
        acts(WRECKER, 4, 0, 3, 7, -15, 13, 11, 20, 10, 12);
        acts(FARMER, 1, 3, 2, 7, -15, 40, 12);
        acts(LAD, 1, 3, 2, 7, -15, 61, 40, 12);
        acts(CHAIR, 0, 4, 3, 7, -15, 51, 13, 30, 11, 50, 10, 12);
        acts(WRECKER, 4, 0, 0, 7, 10 ^ 6, 20, 10);
        WreckBoard b = new WreckBoard();
        b.member(WRECKER, 1, 1, 4);
        b.shelf(0, 0, 0);
        due("parted by 0", b.act(0, 2, 7), -15);
        due("the next one isn't", b.act(0, 0, 7), 14 ^ 6);
        due("bodies", b.trace(0) * 100 + b.trace(1), 2010);
    }

    static void promise49_act_wraps() {
        acts(WRECKER, 0, 0, 0, LOW, 0 ^ 6, 20, 10);
        acts(SAVER, 1, 2, 0, HIGH, -3, 10);
        acts(WRECKER, 1, 2, 2, LOW, 0, 12);
        acts(SAVER, 1, 2, 1, 0x60000000, 2 * (0xC0000000 + 5), 30, 11, 10);
        acts(CHAIR, 0, 0, 0, LOW, -18, 50, 10);
    }

    static void promise49_act_nothing() {
        WreckBoard b = new WreckBoard();
        b.member(WRECKER, 1, 1, 5);
        b.shelf(0, 0, 0);
        b.sheet(0, 0, 1);
        b.shelf(1, 1, 0);
        int[][] nothings = {{-1, 0}, {4, 0}, {LOW, 0}, {HIGH, 0}, {0, -1}, {0, 4}, {0, LOW}, {0, HIGH}, {1, 0}, {2, 0}};
        for (int[] nothing : nothings) {
            b.act(0, 0, 3);
            due("bodies", b.many(6), 2);
            due("act(" + nothing[0] + ", " + nothing[1] + ", 3)", b.act(nothing[0], nothing[1], 3), 0);
            due("no trace", b.many(6), 0);
            due("no trace", b.trace(0), NONE);
        }
        b.act(0, 1, 3);
        b.remake(0, SAVER);
        b.change(0, 3, 1);
        due("of the kind and bench that it has now", b.act(0, 1, 3), 18);
    }

    static void promise50_trace() {
        WreckBoard b = new WreckBoard();
        due("none yet", b.trace(0), NONE);
        b.member(SAVER, 1, 1, 1);
        b.shelf(0, 0, 0);
        b.act(0, 1, 3);
        due("0", b.trace(0), 30);
        due("1", b.trace(1), 11);
        due("2", b.trace(2), 10);
        for (int i : beside(0, 2)) {
            due("i " + i, b.trace(i), NONE);
        }
        due("30", b.trace(30), NONE);
        b.act(0, 0, 3);
        due("of the latest", b.trace(0), 10);
        due("of the latest", b.trace(1), NONE);
    }

    static void promise51_many() {
        WreckBoard b = three();
        b.change(1, 4, 1);
        b.change(2, 4, 1);
        b.report(1, 0, 1, 1);
        tell(b, "lad dim; lad keep; lad trim; lad dim;");
        b.feed(0, 5);
        b.prove(4);
        b.prove(1);
        b.shelf(0, 0, 0);
        b.act(0, 3, 1);
        int[] want = {3, 4, 2, 1, 1, 5, 5};
        for (int what = 0; what < want.length; what++) {
            due("many(" + what + ")", b.many(what), want[what]);
        }
        for (int what : beside(0, 6)) {
            due("many(" + what + ")", b.many(what), BAD);
        }
    }

    // ---- kept

    /** All that is kept, asked one by one. */
    private static int[] keptOf(WreckBoard b) {
        int[] all = new int[120];
        int n = 0;
        for (int what = 0; what <= 8; what++) {
            all[n++] = b.state(what);
        }
        for (int k = 0; k < 6; k++) {
            for (int what = 0; what <= 8; what++) {
                all[n++] = b.memberOf(k, what);
            }
        }
        for (int night = 0; night < 16; night++) {
            int ship = b.ship(night, 0);
            b.ship(night, ship);
            all[n++] = ship;
        }
        for (int f = 0; f < 6; f++) {
            all[n++] = b.benchOf(f, 0);
            all[n++] = b.benchOf(f, 1);
        }
        for (int what = 0; what <= 3; what++) {
            all[n++] = b.many(what);
            all[n++] = b.lone(what);
        }
        int z = b.seed(0);
        b.seed(z);
        all[n++] = z;
        return all;
    }

    private static void spoilAll(WreckBoard b) {
        b.member(LAD, 9, 9, 5);
        for (int k = 0; k < 3; k++) {
            b.remake(k, LAD);
            b.change(k, 1, 1);
            b.change(k, 2, 8);
            b.change(k, 3, 4);
            b.change(k, 4, 1);
        }
        allShips(b, 15);
        for (int f = 0; f < 6; f++) {
            b.bench(f, 0, 7);
            b.bench(f, 1, 8);
        }
        tell(b, "member trim; lad keep;");
        b.forget();
        b.report(15, 1, 30, 90);
        b.seed(99);
        b.night();
        b.lot();
        b.ends(14);
        b.rock(0, 0);
        b.rock(1, 321);
    }

    private static WreckBoard toKeep() {
        WreckBoard b = three();
        tell(b, "farmer if greed > 1 keep;");
        b.report(3, 0, 4, 6);
        b.report(4, 1, 0, 60);
        b.ship(2, 9);
        b.bench(1, 1, 2);
        b.bench(3, 0, 4);
        b.seed(1234567);
        b.lot();
        b.night();
        return b;
    }

    static void promise52_keep() {
        WreckBoard b = toKeep();
        int[] all = keptOf(toKeep());
        due("keep", b.keep(), 1);
        due("nothing is changed", Arrays.equals(all, keptOf(b)) ? 1 : 0, 1);
        spoilAll(b);
        due("all is otherwise", Arrays.equals(all, keptOf(b)) ? 1 : 0, 0);
        due("again", b.again(), 3);
        due("all is as it was", Arrays.equals(all, keptOf(b)) ? 1 : 0, 1);
    }

    static void promise52_keep_theLatest() {
        WreckBoard b = toKeep();
        b.keep();
        spoilAll(b);
        due("keep", b.keep(), 1);
        int[] all = keptOf(b);
        b.anew();
        due("again", b.again(), 4);
        due("the latest is kept", Arrays.equals(all, keptOf(b)) ? 1 : 0, 1);
    }

    static void promise53_again() {
        WreckBoard b = three();
        due("nothing is kept", b.again(), NONE);
        due("as it is", b.many(0), 3);
        b.keep();
        b.night();
        b.prove(2);
        b.feed(0x20202020, 4);
        b.sheet(1, 2, 3);
        b.write(1, 1, 77);
        b.shelf(2, 1, 1);
        b.shelf(3, 0, 1);
        b.act(3, 1, 1);
        for (int i = 0; i < 2; i++) {
            due("again", b.again(), 3);
            due("night", b.state(0), 0);
            due("rows stay", b.many(4), 2);
            due("row", b.row(0, 1), 3);
            due("the tape stays", b.many(5), 4);
            due("sheets stay", b.item(1, 2, 1), 77);
            due("shelves stay", b.taken(2, 12), 3);
            due("shelves stay", b.taken(3, SAVER), 1);
            due("the trace stays", b.many(6), 3);
            b.night();
            b.change(0, 1, 9);
            b.remake(1, LAD);
            b.remake(1, SAVER);
        }
    }
}
