/**
 * The board of a light on a mixed coast, as ../shared/DOC.md tells it: its members and their nights, the rules that
 * tell them, plans, games, reports, rows, and the host's sheets and shelves. Words in capitals are the document's.
 */
public final class WreckBoard {
    public static final int BAD = -1, FULL = -2, NONE = -3, STATE = -4;

    private static final int NO_ROW = -9;
    private static final int NOTHING = -11, OUTSIDE = -12, OTHER_SORT = -13, BELOW_0 = -14, PARTED_BY_0 = -15;

    private static final int MEMBERS = 6, BENCHES = 6, NIGHTS = 16, REPORTS = 6, RULES = 8;
    private static final int VOTES_MOST = 9, GREED_MOST = 9, BENCH_MOST = 9, LIGHT_MOST = 9, FUND_MOST = 999;
    private static final int SHIP_MOST = 15, LAST_KIND = 5;
    private static final int PLAN_MOST = 4, PLACES_MOST = 40, GO_MOST = 20, TIMES_MOST = 40;

    private static final int DIM = 0, KEEP = 1, TRIM = 2;

    /** Of each KIND: it and those above it, as a set. */
    private static final int[] SELF_AND_ABOVE = {0b000001, 0b000011, 0b000101, 0b001101, 0b010001, 0b110001};

    private static final int[] ORDERS = {1, 1, 2, 6, 24, 120};

    /** LONE MEMBERS are told by one number, so that the least comes first: KIND less 1, GREED, LIGHT. */
    private static final int LONE_MEMBERS = 500;

    /** More ACTS than any PLAN has. */
    private static final int TOO_MANY = 99;

    private static final int SHEETS = 4, SHELVES = 4;
    private static final int BYTES = 0, BOOLEANS = 4, MISSING = -1;

    /** What a SHELF holds, where it isn't the sort of a row; the row of a missing SHEET is nothing. */
    private static final int EMPTY = MISSING, A_MEMBER = 5;

    private final Board now = new Board();
    private final Board kept = new Board();
    private boolean isKept;
    private final Tape tape = new Tape();
    private final Rules draft = new Rules();
    private final int[][] rows = new int[PLAN_MOST][3];
    private int rowCount;
    private final int[] sheetSort = {MISSING, MISSING, MISSING, MISSING};
    private final int[] sheetSize = new int[SHEETS];
    private final int[][] items = new int[SHEETS][PLACES_MOST];
    private final int[] shelfHolds = {EMPTY, EMPTY, EMPTY, EMPTY};
    private final int[] shelfNumber = new int[SHELVES];
    private final Deed deed = new Deed();

    public WreckBoard() {
    }

    // ---- the board, members

    public int member(int kind, int votes, int greed, int bench) {
        if (!within(kind, 1, LAST_KIND) || !within(votes, 0, VOTES_MOST)) {
            return BAD;
        }
        if (!within(greed, 0, GREED_MOST) || !within(bench, 0, BENCHES - 1)) {
            return BAD;
        }
        if (now.size >= MEMBERS) {
            return FULL;
        }
        return now.join(kind, votes, greed, bench);
    }

    public int memberOf(int k, int what) {
        if (!now.isMember(k)) {
            return BAD;
        }
        switch (what) {
            case 0: return now.kind[k];
            case 1: return now.votes[k];
            case 2: return now.greed[k];
            case 3: return now.seat[k];
            case 4: return now.isHeard(k) ? 1 : 0;
            case 5: return side(now.leanOf(k));
            case 6: return now.weightOf(k);
            case 7: return now.wouldCarry(k, now.count()) ? 1 : 0;
            case 8: return now.willOf(k);
            default: return BAD;
        }
    }

    public int change(int k, int what, int v) {
        if (!now.isMember(k)) {
            return BAD;
        }
        switch (what) {
            case 1: return exchanged(now.votes, k, v, VOTES_MOST);
            case 2: return exchanged(now.greed, k, v, GREED_MOST);
            case 3: return exchanged(now.seat, k, v, BENCHES - 1);
            case 4: return within(v, 0, 1) ? now.hearOrNot(k, v) : BAD;
            default: return BAD;
        }
    }

    public int remake(int k, int kind) {
        if (!now.isMember(k) || !within(kind, 1, LAST_KIND)) {
            return BAD;
        }
        return exchanged(now.kind, k, kind, LAST_KIND);
    }

    public int ship(int night, int v) {
        return exchanged(now.ships, night, v, SHIP_MOST);
    }

    public int bench(int f, int what, int v) {
        switch (what) {
            case 0: return exchanged(now.hush, f, v, BENCH_MOST);
            case 1: return exchanged(now.zeal, f, v, BENCH_MOST);
            default: return BAD;
        }
    }

    public int benchOf(int f, int what) {
        if (!within(f, 0, BENCHES - 1) || !within(what, 0, 1)) {
            return BAD;
        }
        return what == 0 ? now.hush[f] : now.zeal[f];
    }

    public int rock(int what, int v) {
        if (what == 0 && within(v, 0, LIGHT_MOST)) {
            int was = now.light;
            now.light = v;
            return was;
        }
        if (what == 1 && within(v, 0, FUND_MOST)) {
            int was = now.fund;
            now.fund = v;
            return was;
        }
        return BAD;
    }

    public int ends(int v) {
        if (!within(v, 1, NIGHTS)) {
            return BAD;
        }
        if (v < now.night) {
            return STATE;
        }
        int was = now.end;
        now.end = v;
        return was;
    }

    public int anew() {
        int was = now.night;
        now.night = 0;
        now.score = 0;
        now.light = Board.LIGHT_AT_FIRST;
        now.fund = 0;
        now.heard = 0;
        return was;
    }

    public int state(int what) {
        switch (what) {
            case 0: return now.night;
            case 1: return now.end;
            case 2: return now.score;
            case 3: return now.isOver() ? 1 : 0;
            case 4: return now.heard;
            case 5: return now.shipNow();
            case 6: return now.light;
            case 7: return now.fund;
            case 8: return side(now.count());
            default: return BAD;
        }
    }

    // ---- the rules

    public int feed(long eight, int n) {
        if (!within(n, 1, 8)) {
            return BAD;
        }
        return tape.hasRoomFor(n) ? tape.take(eight, n) : FULL;
    }

    public int rules() {
        int fault = tape.readInto(draft);
        tape.size = 0;
        if (fault >= 0) {
            return -100 - fault;
        }
        now.rules.copyFrom(draft);
        return now.rules.size;
    }

    // ---- nights

    public int night() {
        if (now.isOver()) {
            return STATE;
        }
        int worth = now.nightOfRest();
        now.score += worth;
        return worth;
    }

    public int on(int n) {
        if (!within(n, 0, NIGHTS)) {
            return BAD;
        }
        long from = now.moment();
        int worth = now.worthOfRest(n);
        now.goBackTo(from);
        return worth;
    }

    public int when(int k) {
        if (!now.isMember(k)) {
            return BAD;
        }
        if (now.isHeard(k)) {
            return NONE;
        }
        long from = now.moment();
        for (int left = now.nightsOf(NIGHTS); left > 0 && !now.isHeard(k); left--) {
            now.nightOfRest();
        }
        int heardIn = now.isHeard(k) ? now.night - 1 : NONE;
        now.goBackTo(from);
        return heardIn;
    }

    public int votesFor(int k) {
        return now.isMember(k) ? bestOf(now.votes, k, VOTES_MOST) : BAD;
    }

    public int benchFor(int k) {
        return now.isMember(k) ? bestOf(now.seat, k, BENCHES - 1) : BAD;
    }

    /** The number (the least of several) at place k of a row by which THE REST is WORTH most. */
    private int bestOf(int[] row, int k, int largest) {
        long from = now.moment();
        int was = row[k];
        int most = -1;
        int by = 0;
        for (int v = 0; v <= largest; v++) {
            row[k] = v;
            int worth = 0;
            for (int left = now.nightsOf(NIGHTS); left > 0; left--) {
                worth += now.nightOfRest();
            }
            now.goBackTo(from);
            if (worth > most) {
                most = worth;
                by = v;
            }
        }
        row[k] = was;
        return by;
    }

    // ---- the fund, wrecks, parties, powers

    public int fund(int v) {
        if (!within(v, 0, FUND_MOST)) {
            return BAD;
        }
        long from = now.moment();
        int reachedIn = NONE;
        for (int left = now.nightsOf(NIGHTS); left > 0 && reachedIn == NONE; left--) {
            now.nightOfRest();
            if (now.fund >= v) {
                reachedIn = now.night - 1;
            }
        }
        now.goBackTo(from);
        return reachedIn;
    }

    public int wrecks(int what) {
        if (!within(what, 0, 1)) {
            return BAD;
        }
        long from = now.moment();
        int lostAhead = now.losses;
        now.worthOfRest(NIGHTS);
        int answer = what == 0 ? now.losses - lostAhead : now.fund;
        now.goBackTo(from);
        return answer;
    }

    public int parties(int what) {
        if (what == -1) {
            return countOfParties();
        }
        return now.isMember(what) ? partyOf(what) : BAD;
    }

    private int countOfParties() {
        int many = 0;
        for (int k = 0; k < now.size; k++) {
            int below = (1 << k) - 1;
            // A PARTY is counted at its least MEMBER.
            if (!now.isHeard(k) && (partyOf(k) & below) == 0) {
                many++;
            }
        }
        return many;
    }

    private int partyOf(int k) {
        if (now.isHeard(k)) {
            return 0;
        }
        int party = 1 << k;
        // Each round but the last brings one in: as many rounds as there are MEMBERS bring all.
        for (int round = 0; round < now.size; round++) {
            for (int one = 0; one < now.size; one++) {
                if (isCloseToOneOf(party, one)) {
                    party |= 1 << one;
                }
            }
        }
        return party;
    }

    private boolean isCloseToOneOf(int set, int k) {
        if (now.isHeard(k)) {
            return false;
        }
        int sideOfK = side(now.leanOf(k));
        for (int one = 0; one < now.size; one++) {
            if (isIn(set, one)) {
                boolean sameSide = sideOfK != 1 && sideOfK == side(now.leanOf(one));
                if (sameSide || now.seat[k] == now.seat[one]) {
                    return true;
                }
            }
        }
        return false;
    }

    public int power(int k) {
        if (!now.isMember(k)) {
            return BAD;
        }
        int sets = 1 << now.size;
        int all = weightOfSet(sets - 1);
        int own = now.weightOf(k);
        int orders = 0;
        for (int ahead = 0; ahead < sets; ahead++) {
            if (!isIn(ahead, k)) {
                int weight = weightOfSet(ahead);
                if (2 * weight <= all && 2 * (weight + own) > all) {
                    int behind = (sets - 1) ^ ahead ^ (1 << k);
                    orders += ordersOf(ahead) * ordersOf(behind);
                }
            }
        }
        return orders;
    }

    private int weightOfSet(int set) {
        int weight = 0;
        for (int k = 0; k < now.size; k++) {
            if (isIn(set, k)) {
                weight += now.weightOf(k);
            }
        }
        return weight;
    }

    /** In how many orders so many can come. */
    private static int ordersOf(int set) {
        int many = Integer.bitCount(set);
        return many < ORDERS.length ? ORDERS[many] : 0;
    }

    // ---- plans

    public int best(int n) {
        return within(n, 0, PLAN_MOST) ? worthOf(bestPlans(now, n)) : BAD;
    }

    public int ith(int n, int i) {
        if (!within(n, 0, PLAN_MOST) || !within(i, 0, PLAN_MOST - 1)) {
            return BAD;
        }
        return i < now.nightsOf(n) ? actOf(bestPlans(now, n), i) : NONE;
    }

    public int ways(int n) {
        return within(n, 0, PLAN_MOST) ? waysOf(bestPlans(now, n)) : BAD;
    }

    public int agenda(int n, int members) {
        if (!within(n, 0, PLAN_MOST) || !now.isSet(members)) {
            return BAD;
        }
        int acts = fewestActs(now, n, members);
        return acts <= PLAN_MOST ? acts : NONE;
    }

    public int bars(int n, int members) {
        if (!within(n, 0, PLAN_MOST) || !now.isSet(members)) {
            return BAD;
        }
        int heard = heardBehindSome(now, n);
        for (int k = 0; k < now.size; k++) {
            if (isIn(members, k) && !isIn(heard, k)) {
                return k;
            }
        }
        return NONE;
    }

    /**
     * Of the PLANS of so many NIGHTS from here, in one number: the most WORTH, how many have it, and the ACTS of the
     * FIRST of them. One number, so that a search of thousands of PLANS makes no object.
     */
    private static long bestPlans(Board board, int nights) {
        if (nights <= 0 || board.isOver()) {
            return packed(0, 1, 0);
        }
        long from = board.moment();
        int most = -1;
        int ways = 0;
        int acts = 0;
        int count = board.count();
        for (int act = 0; act <= board.size; act++) {
            int worth = board.goesBy(act, count);
            long rest = bestPlans(board, nights - 1);
            board.goBackTo(from);
            worth += worthOf(rest);
            if (worth > most) {
                most = worth;
                ways = 0;
                acts = act | actsOf(rest) << 3;
            }
            if (worth == most) {
                ways += waysOf(rest);
            }
        }
        return packed(most, ways, acts);
    }

    private static long packed(int worth, int ways, int acts) {
        return (long) worth << 32 | (long) ways << 12 | acts;
    }

    private static int worthOf(long plans) {
        return (int) (plans >> 32);
    }

    private static int waysOf(long plans) {
        return (int) (plans >> 12) & 0xFFFFF;
    }

    private static int actsOf(long plans) {
        return (int) plans & 0xFFF;
    }

    private static int actOf(long plans, int i) {
        return actsOf(plans) >> 3 * i & 7;
    }

    private static int fewestActs(Board board, int nights, int members) {
        if ((board.heard & members) == members) {
            return 0;
        }
        if (nights <= 0 || board.isOver()) {
            return TOO_MANY;
        }
        long from = board.moment();
        int fewest = TOO_MANY;
        int count = board.count();
        for (int act = 0; act <= board.size; act++) {
            board.goesBy(act, count);
            int acts = fewestActs(board, nights - 1, members) + (act > 0 ? 1 : 0);
            board.goBackTo(from);
            fewest = Math.min(fewest, acts);
        }
        return fewest;
    }

    private static int heardBehindSome(Board board, int nights) {
        if (nights <= 0 || board.isOver()) {
            return board.heard;
        }
        long from = board.moment();
        int heard = 0;
        int count = board.count();
        for (int act = 0; act <= board.size; act++) {
            board.goesBy(act, count);
            heard |= heardBehindSome(board, nights - 1);
            board.goBackTo(from);
        }
        return heard;
    }

    // ---- a game, strangers, lots

    public int game(int n) {
        return within(n, 1, PLAN_MOST) ? gameValue(now, n, true) : BAD;
    }

    public int play(int n) {
        if (!within(n, 1, PLAN_MOST)) {
            return BAD;
        }
        if (now.isOver()) {
            return NONE;
        }
        long from = now.moment();
        int most = -1;
        int least = NONE;
        int count = now.count();
        for (int act = 0; act <= now.size; act++) {
            int worth = now.goesBy(act, count) + gameValue(now, n - 1, false);
            now.goBackTo(from);
            if (worth > most) {
                most = worth;
                least = act;
            }
        }
        return least;
    }

    /** VALUE of a GAME of so many NIGHTS from here, in which who is to act now wants much WORTH, or little. */
    private static int gameValue(Board board, int nights, boolean wantsMuch) {
        if (nights <= 0 || board.isOver()) {
            return 0;
        }
        long from = board.moment();
        int value = wantsMuch ? Integer.MIN_VALUE : Integer.MAX_VALUE;
        int count = board.count();
        for (int act = 0; act <= board.size; act++) {
            int worth = board.goesBy(act, count) + gameValue(board, nights - 1, !wantsMuch);
            board.goBackTo(from);
            value = wantsMuch ? Math.max(value, worth) : Math.min(value, worth);
        }
        return value;
    }

    public int report(int k, int asked, int least, int most) {
        if (!within(k, 0, NIGHTS - 1) || !within(asked, 0, 1)) {
            return BAD;
        }
        if (least < 0 || most < least || most > (asked == 0 ? LIGHT_MOST : FUND_MOST)) {
            return BAD;
        }
        return now.reports.size < REPORTS ? now.reports.add(k, asked, least, most) : FULL;
    }

    public int forget() {
        int were = now.reports.size;
        now.reports.size = 0;
        return were;
    }

    public int lone(int what) {
        if (!within(what, 0, 3)) {
            return BAD;
        }
        int fitting = 0;
        int first = 0;
        for (int one = LONE_MEMBERS - 1; one >= 0; one--) {
            if (wrongReportsFor(one) == 0) {
                fitting++;
                first = one;
            }
        }
        if (what == 0) {
            return fitting;
        }
        if (fitting == 0) {
            return NONE;
        }
        switch (what) {
            case 1: return kindOfLone(first);
            case 2: return greedOfLone(first);
            default: return lightOfLone(first);
        }
    }

    public int liar() {
        int liars = 0;
        for (int one = 0; one < LONE_MEMBERS; one++) {
            int wrong = wrongReportsFor(one);
            if (wrong == 0) {
                return NONE;
            }
            if (Integer.bitCount(wrong) == 1) {
                liars |= wrong;
            }
        }
        for (int r = 0; r < REPORTS; r++) {
            if (isIn(liars, r)) {
                return r;
            }
        }
        return NONE;
    }

    /** REPORTS that are not so by a LONE MEMBER, as a set. */
    private int wrongReportsFor(int one) {
        return now.reports.wrongFor(now.kinds[kindOfLone(one)], greedOfLone(one), lightOfLone(one), now.ships);
    }

    private static int kindOfLone(int one) {
        return one / 100 + 1;
    }

    private static int greedOfLone(int one) {
        return one / 10 % 10;
    }

    private static int lightOfLone(int one) {
        return one % 10;
    }

    public int seed(int v) {
        int was = now.chance;
        now.chance = v;
        return was;
    }

    public int lot() {
        if (now.isOver()) {
            return STATE;
        }
        int worth = now.nightByLot();
        now.score += worth;
        return worth;
    }

    public int times(int n, int v) {
        if (!within(n, 1, TIMES_MOST) || !within(v, 0, 999)) {
            return BAD;
        }
        long from = now.moment();
        int chance = now.chance;
        int many = 0;
        for (int time = 0; time < n; time++) {
            int worth = 0;
            for (int left = now.nightsOf(NIGHTS); left > 0; left--) {
                worth += now.nightByLot();
            }
            now.goBackTo(from);
            if (worth >= v) {
                many++;
            }
        }
        now.chance = chance;
        return many;
    }

    // ---- rows

    public int prove(int n) {
        if (!within(n, 0, PLAN_MOST)) {
            return BAD;
        }
        long plans = bestPlans(now, n);
        long from = now.moment();
        rowCount = now.nightsOf(n);
        for (int k = 0; k < rowCount; k++) {
            rows[k][0] = actOf(plans, k);
            rows[k][1] = now.goesBy(rows[k][0], now.count());
            rows[k][2] = now.heard;
        }
        now.goBackTo(from);
        return rowCount;
    }

    public int row(int k, int what) {
        return isInRows(k, what) ? rows[k][what] : NO_ROW;
    }

    public int alterRow(int k, int what, int v) {
        if (!isInRows(k, what)) {
            return NO_ROW;
        }
        int was = rows[k][what];
        rows[k][what] = v;
        return was;
    }

    private boolean isInRows(int k, int what) {
        return within(k, 0, rowCount - 1) && within(what, 0, 2);
    }

    public int judge() {
        long from = now.moment();
        int wrong = 0;
        for (int k = 0; k < rowCount && wrong == 0; k++) {
            if (!isRight(k)) {
                wrong = k + 1;
            }
        }
        now.goBackTo(from);
        return wrong;
    }

    /** Whether a ROW is right as all is; its NIGHT goes by, then. */
    private boolean isRight(int k) {
        int act = rows[k][0];
        if (now.isOver() || !now.isAct(act)) {
            return false;
        }
        int worth = now.goesBy(act, now.count());
        return rows[k][1] == worth && rows[k][2] == now.heard;
    }

    // ---- the host

    public int sheet(int sheet, int sort, int n) {
        if (!within(sheet, 0, SHEETS - 1) || !within(sort, MISSING, BOOLEANS)) {
            return BAD;
        }
        if (sort == MISSING) {
            sheetSort[sheet] = MISSING;
            return 1;
        }
        if (n > PLACES_MOST) {
            return BAD;
        }
        if (n < 0) {
            return BELOW_0;
        }
        sheetSort[sheet] = sort;
        sheetSize[sheet] = n;
        for (int i = 0; i < n; i++) {
            items[sheet][i] = 0;
        }
        return 1;
    }

    public int write(int sheet, int i, int v) {
        if (!within(sheet, 0, SHEETS - 1)) {
            return BAD;
        }
        if (sheetSort[sheet] == MISSING) {
            return NOTHING;
        }
        if (!isPlace(sheet, i)) {
            return OUTSIDE;
        }
        items[sheet][i] = narrowed(v, sheetSort[sheet]);
        return 1;
    }

    public int item(int sheet, int sort, int i) {
        if (!within(sheet, 0, SHEETS - 1) || !within(sort, BYTES, BOOLEANS)) {
            return BAD;
        }
        if (!isOfSort(sheet, sort)) {
            return refusalAs(sheet);
        }
        return isPlace(sheet, i) ? items[sheet][i] : OUTSIDE;
    }

    /** An int serves for longs, too: what is written is an int, and what is read its lowest 32 bits. */
    private static int narrowed(int v, int sort) {
        switch (sort) {
            case 0: return (byte) v;
            case 1: return (short) v;
            case 4: return v != 0 ? 1 : 0;
            default: return v;
        }
    }

    private boolean isOfSort(int sheet, int sort) {
        return sheetSort[sheet] == sort;
    }

    /** Why a SHEET can't be taken for another sort than its own: what is missing is of no sort. */
    private int refusalAs(int sheet) {
        return sheetSort[sheet] == MISSING ? NOTHING : OTHER_SORT;
    }

    private boolean isPlace(int sheet, int i) {
        return within(i, 0, sheetSize[sheet] - 1);
    }

    public int goAll(int sheet, int i, int n) {
        if (!within(sheet, 0, SHEETS - 1) || !within(n, 0, GO_MOST)) {
            return BAD;
        }
        if (!isOfSort(sheet, BYTES)) {
            return refusalAs(sheet);
        }
        int together = 0;
        for (int k = 0; k < n; k++) {
            if (!isPlace(sheet, i + k)) {
                return OUTSIDE;
            }
            int act = items[sheet][i + k];
            if (now.isAct(act) && !now.isOver()) {
                int worth = now.goesBy(act, now.count());
                now.score += worth;
                together += worth;
            }
        }
        return together;
    }

    public int wouldBe(int sheet, int i, int n) {
        if (!within(sheet, 0, SHEETS - 1) || !within(n, 0, GO_MOST)) {
            return BAD;
        }
        if (!isOfSort(sheet, BYTES)) {
            return refusalAs(sheet);
        }
        long from = now.moment();
        int together = 0;
        for (int k = 0; k < n && together >= 0; k++) {
            if (!isPlace(sheet, i + k)) {
                together = OUTSIDE;
            } else if (!now.isAct(items[sheet][i + k]) || now.isOver()) {
                together = STATE;
            } else {
                together += now.goesBy(items[sheet][i + k], now.count());
            }
        }
        now.goBackTo(from);
        return together;
    }

    public int shelf(int shelf, int what, int n) {
        if (!within(shelf, 0, SHELVES - 1)) {
            return BAD;
        }
        switch (what) {
            case 0: return now.isMember(n) ? putOn(shelf, A_MEMBER, n) : BAD;
            case 1: return within(n, 0, SHEETS - 1) ? putOn(shelf, sheetSort[n], sheetSize[n]) : BAD;
            case 2: return putOn(shelf, EMPTY, 0);
            default: return BAD;
        }
    }

    /** Of a row its sort and size are held, no more: nothing else of it can be asked from a SHELF. */
    private int putOn(int shelf, int holds, int number) {
        shelfHolds[shelf] = holds;
        shelfNumber[shelf] = number;
        return 1;
    }

    public int taken(int shelf, int as) {
        boolean asMember = within(as, 0, LAST_KIND);
        if (!within(shelf, 0, SHELVES - 1) || !asMember && !within(as, 10 + BYTES, 10 + BOOLEANS)) {
            return BAD;
        }
        int holds = shelfHolds[shelf];
        int number = shelfNumber[shelf];
        if (holds == EMPTY || holds == A_MEMBER && !now.isMember(number)) {
            return NOTHING;
        }
        if (holds == A_MEMBER) {
            return asMember && isKindOrUnder(now.kind[number], as) ? number : OTHER_SORT;
        }
        return as == 10 + holds ? number : OTHER_SORT;
    }

    public int act(int shelf, int act, int x) {
        deed.clear();
        if (!within(shelf, 0, SHELVES - 1) || shelfHolds[shelf] != A_MEMBER || !now.isMember(shelfNumber[shelf])) {
            return 0;
        }
        int k = shelfNumber[shelf];
        deed.number = k;
        deed.seat = now.seat[k];
        Member thing = now.kinds[now.kind[k]];
        int answer;
        switch (act) {
            case 0: answer = thing.moves(deed, x); break;
            case 1: answer = thing.seconds(deed, x); break;
            case 2: answer = thing.counts(deed, x); break;
            case 3: answer = thing.bows(deed, x); break;
            default: answer = 0; break;
        }
        return deed.partedBy0 ? PARTED_BY_0 : answer;
    }

    public int trace(int i) {
        return within(i, 0, deed.size - 1) ? deed.bodies[i] : NONE;
    }

    public int many(int what) {
        switch (what) {
            case 0: return now.size;
            case 1: return now.rules.size;
            case 2: return Integer.bitCount(now.heard);
            case 3: return now.reports.size;
            case 4: return rowCount;
            case 5: return tape.size;
            case 6: return deed.size;
            default: return BAD;
        }
    }

    // ---- kept

    public int keep() {
        kept.copyFrom(now);
        isKept = true;
        return 1;
    }

    public int again() {
        if (!isKept) {
            return NONE;
        }
        now.copyFrom(kept);
        return now.size;
    }

    // ---- for all

    private static boolean within(int v, int least, int most) {
        return least <= v && v <= most;
    }

    private static boolean isIn(int set, int k) {
        return (set >> k & 1) == 1;
    }

    /** 2 to the dark, 0 to the light, else 1. */
    private static int side(int lean) {
        if (lean > 0) {
            return 2;
        }
        return lean < 0 ? 0 : 1;
    }

    private static boolean isKindOrUnder(int kind, int of) {
        return within(kind, 0, LAST_KIND) && isIn(SELF_AND_ABOVE[kind], of);
    }

    /** Puts v (0 to most) at place i of a row: what was there, or BAD. */
    private static int exchanged(int[] row, int i, int v, int most) {
        if (!within(i, 0, row.length - 1) || !within(v, 0, most)) {
            return BAD;
        }
        int was = row[i];
        row[i] = v;
        return was;
    }

    /** How things stand: all that keep() keeps. */
    private static final class Board {
        static final int LIGHT_AT_FIRST = 5;

        int night;
        int end = 12;
        int light = LIGHT_AT_FIRST;
        int fund;
        int score;
        int chance = 1;
        int size;
        int heard;
        /** SHIPS LOST in all NIGHTS ever tried; wrecks() takes the difference. */
        int losses;
        final int[] kind = new int[MEMBERS];
        final int[] votes = new int[MEMBERS];
        final int[] greed = new int[MEMBERS];
        final int[] seat = new int[MEMBERS];
        final int[] ships = {6, 6, 6, 6, 6, 6, 6, 6, 6, 6, 6, 6, 6, 6, 6, 6};
        final int[] hush = new int[BENCHES];
        final int[] zeal = new int[BENCHES];
        final Rules rules = new Rules();
        final Reports reports = new Reports();
        final Member[] kinds = {
            new Member(), new Wrecker(), new Saver(), new Chair(), new Farmer(), new Lad()
        };

        boolean isMember(int k) {
            return within(k, 0, size - 1);
        }

        boolean isSet(int members) {
            return within(members, 0, (1 << size) - 1);
        }

        boolean isAct(int act) {
            return within(act, 0, size);
        }

        boolean isHeard(int k) {
            return isIn(heard, k);
        }

        boolean isOver() {
            return night >= end;
        }

        /** How many NIGHTS there are of n that are asked for. */
        int nightsOf(int n) {
            return Math.min(n, end - night);
        }

        int join(int itsKind, int itsVotes, int itsGreed, int itsSeat) {
            int k = size;
            kind[k] = itsKind;
            votes[k] = itsVotes;
            greed[k] = itsGreed;
            seat[k] = itsSeat;
            size++;
            return k;
        }

        int hearOrNot(int k, int v) {
            int was = isHeard(k) ? 1 : 0;
            heard = heard & ~(1 << k) | v << k;
            return was;
        }

        int shipNow() {
            return night < ships.length ? ships[night] : 0;
        }

        int leanOf(int k) {
            return kinds[kind[k]].leansBy(valueOf(shipNow()), light, greed[k], night) + zeal[seat[k]];
        }

        int weightOf(int k) {
            return Math.max(0, kinds[kind[k]].weighsBy(votes[k], k) - hush[seat[k]]);
        }

        /** THE COUNT. */
        int count() {
            int count = 0;
            for (int k = 0; k < size; k++) {
                count += (side(leanOf(k)) - 1) * weightOf(k);
            }
            return count;
        }

        int willOf(int k) {
            for (int r = 0; r < rules.size; r++) {
                if (isKindOrUnder(kind[k], rules.kind[r]) && rules.holds(r, this, k)) {
                    return rules.will[r];
                }
            }
            return DIM;
        }

        boolean wouldCarry(int k, int count) {
            return !isHeard(k) && isCarried(willOf(k), count);
        }

        private static boolean isCarried(int will, int count) {
            return will == DIM && count > 0 || will == TRIM && count < 0;
        }

        /**
         * A NIGHT with an ACT goes by: what it was WORTH. THE COUNT is told, as a search needs it once for all ACTS;
         * SCORE is left to who asks, as most NIGHTS are only tried.
         */
        int goesBy(int act, int count) {
            int worth = act > 0 ? does(act - 1, count) : 0;
            int ship = shipNow();
            if (isLost(ship, light)) {
                losses++;
                fund = Math.min(FUND_MOST, fund + fundOf(ship));
                worth += 3 * valueOf(ship);
            } else if (valueOf(ship) > 0) {
                worth++;
            }
            light = nearerToFive(light);
            night++;
            return worth;
        }

        /** A MEMBER does as its WILL is: what that is WORTH. */
        private int does(int k, int count) {
            int will = willOf(k);
            if (will == KEEP) {
                return 0;
            }
            if (!isCarried(will, count)) {
                votes[k] = Math.max(0, votes[k] - 1);
                return 0;
            }
            light = held(will == DIM ? light - 2 : light + 2);
            heard |= 1 << k;
            return 2;
        }

        static int held(int light) {
            return Math.max(0, Math.min(LIGHT_MOST, light));
        }

        static int nearerToFive(int light) {
            if (light < 5) {
                return light + 1;
            }
            return light > 5 ? light - 1 : light;
        }

        static int valueOf(int ship) {
            return ship / 4;
        }

        static boolean isLost(int ship, int light) {
            return valueOf(ship) > 0 && light < 3 * (ship % 4);
        }

        static int fundOf(int ship) {
            return 5 * valueOf(ship);
        }

        int nightOfRest() {
            int count = count();
            for (int k = 0; k < size; k++) {
                if (wouldCarry(k, count)) {
                    return goesBy(k + 1, count);
                }
            }
            return goesBy(0, count);
        }

        /** n NIGHTS of THE REST go by (fewer, if it is OVER): what they were WORTH. */
        int worthOfRest(int n) {
            int worth = 0;
            for (int left = nightsOf(n); left > 0; left--) {
                worth += nightOfRest();
            }
            return worth;
        }

        int nightByLot() {
            chance = chance * 1103515245 + 12345;
            return goesBy((chance >>> 16) % (size + 1), count());
        }

        /** All that a NIGHT changes, in one number, so that one can try NIGHTS and make no object. */
        long moment() {
            long moment = (long) heard << 19 | (long) fund << 9 | (long) light << 5 | night;
            for (int k = 0; k < MEMBERS; k++) {
                moment |= (long) votes[k] << 25 + 4 * k;
            }
            return moment;
        }

        void goBackTo(long moment) {
            night = (int) moment & 31;
            light = (int) (moment >> 5) & 15;
            fund = (int) (moment >> 9) & 1023;
            heard = (int) (moment >> 19) & 63;
            for (int k = 0; k < MEMBERS; k++) {
                votes[k] = (int) (moment >> 25 + 4 * k) & 15;
            }
        }

        void copyFrom(Board other) {
            night = other.night;
            end = other.end;
            light = other.light;
            fund = other.fund;
            score = other.score;
            chance = other.chance;
            size = other.size;
            heard = other.heard;
            copy(other.kind, kind);
            copy(other.votes, votes);
            copy(other.greed, greed);
            copy(other.seat, seat);
            copy(other.ships, ships);
            copy(other.hush, hush);
            copy(other.zeal, zeal);
            rules.copyFrom(other.rules);
            reports.copyFrom(other.reports);
        }

        static void copy(int[] from, int[] to) {
            System.arraycopy(from, 0, to, 0, Math.min(from.length, to.length));
        }
    }

    /** KIND 0, and what all KINDS share. One object of a KIND serves all its MEMBERS. */
    private static class Member {
        int leansBy(int value, int light, int greed, int night) {
            return value - 1;
        }

        int weighsBy(int votes, int number) {
            return votes;
        }

        int moves(Deed deed, int x) {
            deed.begins(10);
            return x * 2 - deed.number;
        }

        int seconds(Deed deed, int x) {
            deed.begins(11);
            return moves(deed, x) + 3 * deed.seat;
        }

        int counts(Deed deed, int x) {
            deed.begins(12);
            int by = deed.number + deed.seat - 4;
            if (by == 0) {
                deed.partedBy0 = true;
                return 0;
            }
            return x % by;
        }

        int bows(Deed deed, int x) {
            deed.begins(13);
            return seconds(deed, x) - counts(deed, x);
        }
    }

    private static final class Wrecker extends Member {
        int leansBy(int value, int light, int greed, int night) {
            return greed * value + 1;
        }

        int weighsBy(int votes, int number) {
            return super.weighsBy(votes, number) + 1;
        }

        int moves(Deed deed, int x) {
            deed.begins(20);
            return super.moves(deed, x) ^ 6;
        }
    }

    private static class Saver extends Member {
        int leansBy(int value, int light, int greed, int night) {
            return light < 5 ? -3 : -1;
        }

        int weighsBy(int votes, int number) {
            return 2 * super.weighsBy(votes, number);
        }

        int seconds(Deed deed, int x) {
            deed.begins(30);
            return super.seconds(deed, x) * 2;
        }
    }

    private static final class Chair extends Saver {
        int leansBy(int value, int light, int greed, int night) {
            return night % 2 == 0 ? super.leansBy(value, light, greed, night) : 0;
        }

        int weighsBy(int votes, int number) {
            return super.weighsBy(votes, number) + number;
        }

        int moves(Deed deed, int x) {
            deed.begins(50);
            return super.moves(deed, x - 9);
        }

        int bows(Deed deed, int x) {
            deed.begins(51);
            return super.bows(deed, x) + seconds(deed, deed.seat);
        }
    }

    private static class Farmer extends Member {
        int leansBy(int value, int light, int greed, int night) {
            return value == 2 ? greed : super.leansBy(value, light, greed, night);
        }

        int weighsBy(int votes, int number) {
            return (super.weighsBy(votes, number) + 1) / 2;
        }

        int counts(Deed deed, int x) {
            deed.begins(40);
            return super.counts(deed, x) + 1;
        }
    }

    private static final class Lad extends Farmer {
        int leansBy(int value, int light, int greed, int night) {
            return -super.leansBy(value, light, greed, night);
        }

        int weighsBy(int votes, int number) {
            return Math.min(3, super.weighsBy(votes, number));
        }

        int seconds(Deed deed, int x) {
            deed.begins(60);
            return 0 - super.seconds(deed, x);
        }

        int counts(Deed deed, int x) {
            deed.begins(61);
            return super.counts(deed, x) ^ moves(deed, deed.number);
        }
    }

    /** An act() under way, or the latest: of which MEMBER, and THE TRACE. */
    private static final class Deed {
        int number;
        int seat;
        boolean partedBy0;
        final int[] bodies = new int[30];
        int size;

        void clear() {
            partedBy0 = false;
            size = 0;
        }

        /** What would begin after a parting by 0 doesn't: that ends the act. */
        void begins(int body) {
            if (!partedBy0 && size < bodies.length) {
                bodies[size] = body;
                size++;
            }
        }
    }

    /** REPORTS, and which of them a LONE MEMBER makes wrong. */
    private static final class Reports {
        int size;
        private final int[] after = new int[REPORTS];
        private final int[] asked = new int[REPORTS];
        private final int[] least = new int[REPORTS];
        private final int[] most = new int[REPORTS];

        int add(int nights, int what, int from, int to) {
            int r = size;
            after[r] = nights;
            asked[r] = what;
            least[r] = from;
            most[r] = to;
            size++;
            return r;
        }

        int wrongFor(Member kind, int greed, int lightAtFirst, int[] ships) {
            int light = lightAtFirst;
            int fund = 0;
            int wrong = wrongBehind(0, light, fund);
            int nights = Math.min(latest(), ships.length);
            for (int night = 0; night < nights; night++) {
                int ship = ships[night];
                int lean = kind.leansBy(Board.valueOf(ship), light, greed, night);
                light = Board.held(light - 2 * (side(lean) - 1));
                if (Board.isLost(ship, light)) {
                    fund += Board.fundOf(ship);
                }
                light = Board.nearerToFive(light);
                wrong |= wrongBehind(night + 1, light, fund);
            }
            return wrong;
        }

        private int latest() {
            int latest = 0;
            for (int r = 0; r < size; r++) {
                latest = Math.max(latest, after[r]);
            }
            return latest;
        }

        private int wrongBehind(int nights, int light, int fund) {
            int wrong = 0;
            for (int r = 0; r < size; r++) {
                if (after[r] == nights && !within(asked[r] == 0 ? light : fund, least[r], most[r])) {
                    wrong |= 1 << r;
                }
            }
            return wrong;
        }

        void copyFrom(Reports other) {
            size = other.size;
            Board.copy(other.after, after);
            Board.copy(other.asked, asked);
            Board.copy(other.least, least);
            Board.copy(other.most, most);
        }
    }

    /**
     * RULES. Conditions are steps in one row, parts ahead of what joins them: a comparison (its SIGN, then two
     * VALUES), not, and, or. All are the TAPE's tokens, so a TEXT of 200 bytes has no more steps than that.
     */
    private static final class Rules {
        int size;
        final int[] kind = new int[RULES];
        final int[] will = new int[RULES];
        /** Behind the last step of each; the next one's first is there. */
        private final int[] end = new int[RULES];
        private final int[] steps = new int[Tape.MOST];
        private int used;

        void clear() {
            size = 0;
            used = 0;
        }

        void addStep(int step) {
            if (used < steps.length) {
                steps[used] = step;
                used++;
            }
        }

        void add(int itsKind, int itsWill) {
            if (size < RULES) {
                kind[size] = itsKind;
                will[size] = itsWill;
                end[size] = used;
                size++;
            }
        }

        /**
         * Whether a RULE's condition holds for MEMBER k. The truths that wait are bits of one number, the latest
         * lowest: no stack of objects is made, however often it is asked.
         */
        boolean holds(int r, Board board, int k) {
            int truths = 1;
            for (int i = r > 0 ? end[r - 1] : 0; i < end[r]; i++) {
                int step = steps[i];
                int latest = truths & 1;
                if (step == Tape.NOT) {
                    truths ^= 1;
                } else if (step == Tape.AND) {
                    // latest - 2 has all bits, but for the lowest, if latest is 0.
                    truths = truths >> 1 & (latest - 2);
                } else if (step == Tape.OR) {
                    truths = truths >> 1 | latest;
                } else if (i + 2 < steps.length) {
                    boolean so = isSo(valueOf(steps[i + 1], board, k), step, valueOf(steps[i + 2], board, k));
                    truths = truths << 1 | (so ? 1 : 0);
                    i += 2;
                }
            }
            return (truths & 1) == 1;
        }

        private static boolean isSo(int left, int sign, int right) {
            switch (sign) {
                case Tape.LESS: return left < right;
                case Tape.SAME: return left == right;
                default: return left > right;
            }
        }

        private static int valueOf(int token, Board board, int k) {
            switch (token) {
                case Tape.NIGHT: return board.night;
                case Tape.GREED: return board.greed[k];
                case Tape.VOTES: return board.votes[k];
                case Tape.LIGHT: return board.light;
                case Tape.NUMBER: return k;
                default: return token - Tape.N;
            }
        }

        void copyFrom(Rules other) {
            size = other.size;
            used = other.used;
            Board.copy(other.kind, kind);
            Board.copy(other.will, will);
            Board.copy(other.end, end);
            Board.copy(other.steps, steps);
        }
    }

    /** THE TAPE, and how it tells RULES. */
    private static final class Tape {
        static final int MOST = 200;

        /** A NAME's token is its place here, a NUMBER's is N and its own, that of another byte is behind all those. */
        private static final String NAMES =
            "member wrecker saver chair farmer lad dim keep trim if or and not night greed votes light number";
        private static final String SIGNS = "<=>();";
        static final int FIRST_KIND = 0, LAST_KIND = 5, FIRST_DO = 6, LAST_DO = 8, IF = 9, OR = 10, AND = 11, NOT = 12;
        static final int NIGHT = 13, GREED = 14, VOTES = 15, LIGHT = 16, NUMBER = 17, N = 18, LAST_N = N + 9999;
        static final int LESS = LAST_N + 1, SAME = LESS + 1, MORE = LESS + 2;
        private static final int OPEN = LESS + 3, SHUT = LESS + 4, STOP = LESS + 5;
        private static final int DIGITS_MOST = 4, OPEN_MOST = 3;
        private static final int UNKNOWN = -1, END = -2;

        private static final int BLANK = 0, LETTER = 1, DIGIT = 2, OTHER = 3;

        int size;
        private final int[] bytes = new int[MOST];
        private final int[] tokens = new int[MOST + 1];
        private final int[] places = new int[MOST + 1];
        private int at;

        boolean hasRoomFor(int n) {
            return size + n <= MOST;
        }

        int take(long eight, int n) {
            for (int i = 0; i < n; i++) {
                bytes[size] = (int) (eight >>> 8 * i) & 255;
                size++;
            }
            return size;
        }

        /** Reads all into rules that are free: its FAULT, or -1. */
        int readInto(Rules rules) {
            split();
            at = 0;
            rules.clear();
            for (int r = 0; tokens[at] != END; r++) {
                if (r >= RULES || !reads(rules)) {
                    return places[at];
                }
            }
            return -1;
        }

        private void split() {
            int many = 0;
            for (int i = 0; i < size; i++) {
                if (beginsAt(i)) {
                    tokens[many] = tokenAt(i);
                    places[many] = i;
                    many++;
                }
            }
            tokens[many] = END;
            places[many] = size;
        }

        private boolean beginsAt(int i) {
            int sort = sortOf(bytes[i]);
            if (sort == BLANK) {
                return false;
            }
            return sort == OTHER || i == 0 || sortOf(bytes[i - 1]) != sort;
        }

        private static int sortOf(int sign) {
            if (within(sign, 'a', 'z')) {
                return LETTER;
            }
            if (within(sign, '0', '9')) {
                return DIGIT;
            }
            return sign == ' ' ? BLANK : OTHER;
        }

        private int tokenAt(int from) {
            int sort = sortOf(bytes[from]);
            if (sort == OTHER) {
                int place = SIGNS.indexOf((char) bytes[from]);
                return place < 0 ? UNKNOWN : LESS + place;
            }
            int to = from + 1;
            while (to < size && sortOf(bytes[to]) == sort) {
                to++;
            }
            return sort == DIGIT ? numberToken(from, to) : nameToken(from, to);
        }

        private int numberToken(int from, int to) {
            if (to - from > DIGITS_MOST) {
                return UNKNOWN;
            }
            int number = 0;
            for (int i = from; i < to; i++) {
                number = 10 * number + bytes[i] - '0';
            }
            return N + number;
        }

        private int nameToken(int from, int to) {
            int token = 0;
            int start = 0;
            for (int i = 0; i <= NAMES.length(); i++) {
                if (i == NAMES.length() || NAMES.charAt(i) == ' ') {
                    if (i - start == to - from && isName(start, i, from)) {
                        return token;
                    }
                    token++;
                    start = i + 1;
                }
            }
            return UNKNOWN;
        }

        private boolean isName(int start, int end, int from) {
            for (int i = start; i < end; i++) {
                if (NAMES.charAt(i) != bytes[from + i - start]) {
                    return false;
                }
            }
            return true;
        }

        /** The token that comes, if it is one of these, and goes on; else UNKNOWN. */
        private int next(int first, int last) {
            int token = tokens[at];
            if (token < first || token > last) {
                return UNKNOWN;
            }
            at++;
            return token;
        }

        private boolean takes(int token) {
            return next(token, token) != UNKNOWN;
        }

        private boolean reads(Rules rules) {
            int kind = next(FIRST_KIND, LAST_KIND);
            if (kind == UNKNOWN) {
                return false;
            }
            if (takes(IF) && !readsCond(rules, 0)) {
                return false;
            }
            int will = next(FIRST_DO, LAST_DO);
            if (will == UNKNOWN || !takes(STOP)) {
                return false;
            }
            rules.add(kind, will - FIRST_DO);
            return true;
        }

        private boolean readsCond(Rules rules, int open) {
            if (!readsAll(rules, open)) {
                return false;
            }
            for (int more = 0; more < MOST && takes(OR); more++) {
                if (!readsAll(rules, open)) {
                    return false;
                }
                rules.addStep(OR);
            }
            return true;
        }

        private boolean readsAll(Rules rules, int open) {
            if (!readsOne(rules, open)) {
                return false;
            }
            for (int more = 0; more < MOST && takes(AND); more++) {
                if (!readsOne(rules, open)) {
                    return false;
                }
                rules.addStep(AND);
            }
            return true;
        }

        private boolean readsOne(Rules rules, int open) {
            boolean not = false;
            for (int more = 0; more < MOST && takes(NOT); more++) {
                not = !not;
            }
            boolean read;
            if (open < OPEN_MOST && takes(OPEN)) {
                read = readsCond(rules, open + 1) && takes(SHUT);
            } else {
                read = readsComparison(rules);
            }
            if (not) {
                rules.addStep(NOT);
            }
            return read;
        }

        private boolean readsComparison(Rules rules) {
            int left = next(NIGHT, LAST_N);
            if (left == UNKNOWN) {
                return false;
            }
            int sign = next(LESS, MORE);
            if (sign == UNKNOWN) {
                return false;
            }
            int right = next(NIGHT, LAST_N);
            if (right == UNKNOWN) {
                return false;
            }
            rules.addStep(sign);
            rules.addStep(left);
            rules.addStep(right);
            return true;
        }
    }
}
