import java.util.ArrayList;
import java.util.List;
import java.util.function.IntPredicate;
import java.util.function.ToIntFunction;

/**
 * The document once more, written for the tests in the plainest way that there is: all PLANS in a list, all orders of
 * MEMBERS, exceptions for what is refused, copies of everything. RandomRunsTests holds WreckBoard against it.
 */
final class NaiveBoard {
    static final String[] KINDS = {"member", "wrecker", "saver", "chair", "farmer", "lad"};
    static final String[] DOS = {"dim", "keep", "trim"};
    static final List<String> FACTS = List.of("night", "greed", "votes", "light", "number");

    /** A refusal, by its number. */
    static final class Refused extends RuntimeException {
        final int by;

        Refused(int by) {
            super(null, null, false, false);
            this.by = by;
        }
    }

    static void refuse(boolean when, int by) {
        if (when) {
            throw new Refused(by);
        }
    }

    interface Call {
        int answer();
    }

    static int orRefusal(Call call) {
        try {
            return call.answer();
        } catch (Refused refused) {
            return refused.by;
        }
    }

    // ---- things of kinds, with their bodies

    static class Thing {
        int kind;
        int number;
        int votes;
        int greed;
        int bench;
        boolean heard;
        List<Integer> trace;

        static Thing ofKind(int kind) {
            Thing thing = kind == 0 ? new Thing() : kind == 1 ? new WreckerThing() : kind == 2 ? new SaverThing()
                : kind == 3 ? new ChairThing() : kind == 4 ? new FarmerThing() : new LadThing();
            thing.kind = kind;
            return thing;
        }

        Thing as(int otherKind) {
            Thing thing = ofKind(otherKind);
            thing.number = number;
            thing.votes = votes;
            thing.greed = greed;
            thing.bench = bench;
            thing.heard = heard;
            return thing;
        }

        int lean(int night, int value, int light) {
            return value - 1;
        }

        int weight() {
            return votes;
        }

        int moves(int x) {
            trace.add(10);
            return x * 2 - number;
        }

        int seconds(int x) {
            trace.add(11);
            return moves(x) + 3 * bench;
        }

        int counts(int x) {
            trace.add(12);
            refuse(number + bench - 4 == 0, -15);
            return x % (number + bench - 4);
        }

        int bows(int x) {
            trace.add(13);
            return seconds(x) - counts(x);
        }
    }

    static class WreckerThing extends Thing {
        @Override int lean(int night, int value, int light) {
            return greed * value + 1;
        }

        @Override int weight() {
            return votes + 1;
        }

        @Override int moves(int x) {
            trace.add(20);
            return super.moves(x) ^ 6;
        }
    }

    static class SaverThing extends Thing {
        @Override int lean(int night, int value, int light) {
            return light < 5 ? -3 : -1;
        }

        @Override int weight() {
            return votes + votes;
        }

        @Override int seconds(int x) {
            trace.add(30);
            return super.seconds(x) * 2;
        }
    }

    static class ChairThing extends SaverThing {
        @Override int lean(int night, int value, int light) {
            return night % 2 == 1 ? 0 : super.lean(night, value, light);
        }

        @Override int weight() {
            return super.weight() + number;
        }

        @Override int moves(int x) {
            trace.add(50);
            return super.moves(x - 9);
        }

        @Override int bows(int x) {
            trace.add(51);
            return super.bows(x) + seconds(bench);
        }
    }

    static class FarmerThing extends Thing {
        @Override int lean(int night, int value, int light) {
            return value == 2 ? greed : super.lean(night, value, light);
        }

        @Override int weight() {
            return (votes + 1) / 2;
        }

        @Override int counts(int x) {
            trace.add(40);
            return super.counts(x) + 1;
        }
    }

    static class LadThing extends FarmerThing {
        @Override int lean(int night, int value, int light) {
            return 0 - super.lean(night, value, light);
        }

        @Override int weight() {
            return super.weight() > 3 ? 3 : super.weight();
        }

        @Override int seconds(int x) {
            trace.add(60);
            return 0 - super.seconds(x);
        }

        @Override int counts(int x) {
            trace.add(61);
            return super.counts(x) ^ moves(number);
        }
    }

    /** Whether a thing of a kind is one of kind of, by the Java classes. */
    static boolean isA(int kind, int of) {
        return Thing.ofKind(of).getClass().isInstance(Thing.ofKind(kind));
    }

    // ---- how it stands

    record Rule(int kind, IntPredicate condition, int will) {}

    record Report(int nights, int asked, int least, int most) {}

    static final class Stand {
        int night;
        int end = 12;
        int light = 5;
        int fund;
        int score;
        int z = 1;
        int[] ships = {6, 6, 6, 6, 6, 6, 6, 6, 6, 6, 6, 6, 6, 6, 6, 6};
        int[] hush = new int[6];
        int[] zeal = new int[6];
        List<Thing> members = new ArrayList<>();
        List<Rule> rules = new ArrayList<>();
        List<Report> reports = new ArrayList<>();
        boolean lostLatest;

        Stand copy() {
            Stand s = new Stand();
            s.night = night;
            s.end = end;
            s.light = light;
            s.fund = fund;
            s.score = score;
            s.z = z;
            s.ships = ships.clone();
            s.hush = hush.clone();
            s.zeal = zeal.clone();
            for (Thing m : members) {
                s.members.add(m.as(m.kind));
            }
            s.rules.addAll(rules);
            s.reports.addAll(reports);
            return s;
        }
    }

    Stand s = new Stand();
    Stand kept;
    final List<Integer> tape = new ArrayList<>();
    List<int[]> rows = new ArrayList<>();
    final int[][] sheet = new int[4][];
    final int[] sort = new int[4];
    final Object[] shelf = new Object[4];
    List<Integer> trace = new ArrayList<>();

    record Row(int sort, int[] items) {}

    static boolean in(int v, int least, int most) {
        return v >= least && v <= most;
    }

    Thing the(int k) {
        refuse(!in(k, 0, s.members.size() - 1), -1);
        return s.members.get(k);
    }

    int shipNow() {
        return s.night <= 15 ? s.ships[s.night] : 0;
    }

    int lean(Thing m) {
        return m.lean(s.night, shipNow() / 4, s.light) + s.zeal[m.bench];
    }

    int weight(Thing m) {
        int w = m.weight() - s.hush[m.bench];
        return w < 0 ? 0 : w;
    }

    int count() {
        int dark = 0;
        int bright = 0;
        for (Thing m : s.members) {
            if (lean(m) > 0) {
                dark += weight(m);
            } else if (lean(m) < 0) {
                bright += weight(m);
            }
        }
        return dark - bright;
    }

    String will(Thing m) {
        for (Rule r : s.rules) {
            if (isA(m.kind, r.kind) && r.condition.test(m.number)) {
                return DOS[r.will];
            }
        }
        return "dim";
    }

    boolean carried(String will) {
        return will.equals("dim") && count() > 0 || will.equals("trim") && count() < 0;
    }

    boolean would(Thing m) {
        return !m.heard && carried(will(m));
    }

    boolean over() {
        return s.night >= s.end;
    }

    static int toFive(int light) {
        return light == 5 ? 5 : light < 5 ? light + 1 : light - 1;
    }

    int step(int act) {
        int worth = 0;
        if (act != 0) {
            Thing m = s.members.get(act - 1);
            String will = will(m);
            if (carried(will)) {
                s.light = will.equals("dim") ? Math.max(0, s.light - 2) : Math.min(9, s.light + 2);
                m.heard = true;
                worth = 2;
            } else if (!will.equals("keep") && m.votes > 0) {
                m.votes--;
            }
        }
        int value = shipNow() / 4;
        s.lostLatest = value > 0 && s.light < 3 * (shipNow() % 4);
        if (s.lostLatest) {
            s.fund = Math.min(999, s.fund + 5 * value);
            worth += 3 * value;
        } else if (value > 0) {
            worth += 1;
        }
        s.light = toFive(s.light);
        s.night++;
        return worth;
    }

    int restAct() {
        for (Thing m : s.members) {
            if (would(m)) {
                return m.number + 1;
            }
        }
        return 0;
    }

    int heard() {
        int set = 0;
        for (Thing m : s.members) {
            if (m.heard) {
                set |= 1 << m.number;
            }
        }
        return set;
    }

    /** Does it on a copy, and goes back. */
    int trying(Call call) {
        Stand real = s;
        s = real.copy();
        try {
            return call.answer();
        } finally {
            s = real;
        }
    }

    int rest(int n) {
        int worth = 0;
        for (int i = 0; i < n && !over(); i++) {
            worth += step(restAct());
        }
        return worth;
    }

    // ---- the calls

    int call(String name, long[] a) {
        return orRefusal(() -> answer(name, a));
    }

    int answer(String name, long[] a) {
        int p = a.length > 0 ? (int) a[0] : 0;
        int q = a.length > 1 ? (int) a[1] : 0;
        int r = a.length > 2 ? (int) a[2] : 0;
        int t = a.length > 3 ? (int) a[3] : 0;
        switch (name) {
            case "member": return member(p, q, r, t);
            case "memberOf": return memberOf(p, q);
            case "change": return change(p, q, r);
            case "remake": return remake(p, q);
            case "ship": {
                refuse(!in(p, 0, 15) || !in(q, 0, 15), -1);
                int was = s.ships[p];
                s.ships[p] = q;
                return was;
            }
            case "bench": {
                refuse(!in(p, 0, 5) || !in(q, 0, 1) || !in(r, 0, 9), -1);
                int[] of = q == 0 ? s.hush : s.zeal;
                int was = of[p];
                of[p] = r;
                return was;
            }
            case "benchOf":
                refuse(!in(p, 0, 5) || !in(q, 0, 1), -1);
                return (q == 0 ? s.hush : s.zeal)[p];
            case "rock": return rock(p, q);
            case "ends": {
                refuse(!in(p, 1, 16), -1);
                refuse(p < s.night, -4);
                int was = s.end;
                s.end = p;
                return was;
            }
            case "anew": {
                int was = s.night;
                s.night = 0;
                s.score = 0;
                s.light = 5;
                s.fund = 0;
                s.members.forEach(m -> m.heard = false);
                return was;
            }
            case "state": return state(p);
            case "feed": return feed(a[0], q);
            case "rules": return rules();
            case "night": {
                refuse(over(), -4);
                int worth = step(restAct());
                s.score += worth;
                return worth;
            }
            case "on":
                refuse(!in(p, 0, 16), -1);
                return trying(() -> rest(p));
            case "when": return when(p);
            case "votesFor": return bestFor(p, 1, 9);
            case "benchFor": return bestFor(p, 3, 5);
            case "fund": return fund(p);
            case "wrecks": return wrecks(p);
            case "parties": return parties(p);
            case "power": return power(p);
            default: return more(name, p, q, r, t);
        }
    }

    int more(String name, int p, int q, int r, int t) {
        switch (name) {
            case "best": return bestPlans(p).get(0).worth;
            case "ith":
                refuse(!in(q, 0, 3), -1);
                int[] first = bestPlans(p).get(0).acts;
                refuse(q >= first.length, -3);
                return first[q];
            case "ways": return bestPlans(p).size();
            case "agenda": return agenda(p, q);
            case "bars": return bars(p, q);
            case "game":
                refuse(!in(p, 1, 4), -1);
                return game(p, true)[0];
            case "play":
                refuse(!in(p, 1, 4), -1);
                refuse(over(), -3);
                return game(p, true)[1];
            case "report":
                refuse(!in(p, 0, 15) || !in(q, 0, 1), -1);
                refuse(r > t || r < 0 || t > (q == 0 ? 9 : 999), -1);
                refuse(s.reports.size() == 6, -2);
                s.reports.add(new Report(p, q, r, t));
                return s.reports.size() - 1;
            case "forget": {
                int were = s.reports.size();
                s.reports.clear();
                return were;
            }
            case "lone": return lone(p);
            case "liar": return liar();
            case "seed": {
                int was = s.z;
                s.z = p;
                return was;
            }
            case "lot": {
                refuse(over(), -4);
                int worth = lot();
                s.score += worth;
                return worth;
            }
            case "times": return times(p, q);
            case "prove": return prove(p);
            case "row":
                return in(p, 0, rows.size() - 1) && in(q, 0, 2) ? rows.get(p)[q] : -9;
            case "alterRow": {
                refuse(!in(p, 0, rows.size() - 1) || !in(q, 0, 2), -9);
                int was = rows.get(p)[q];
                rows.get(p)[q] = r;
                return was;
            }
            case "judge": return trying(this::judge);
            default: return host(name, p, q, r);
        }
    }

    int host(String name, int p, int q, int r) {
        switch (name) {
            case "sheet": return makeSheet(p, q, r);
            case "write": {
                refuse(!in(p, 0, 3), -1);
                refuse(sheet[p] == null, -11);
                refuse(!in(q, 0, sheet[p].length - 1), -12);
                sheet[p][q] = sort[p] == 0 ? (byte) r : sort[p] == 1 ? (short) r : sort[p] == 4 ? (r == 0 ? 0 : 1) : r;
                return 1;
            }
            case "item":
                refuse(!in(p, 0, 3) || !in(q, 0, 4), -1);
                refuse(sheet[p] != null && sort[p] != q, -13);
                refuse(sheet[p] == null, -11);
                refuse(!in(r, 0, sheet[p].length - 1), -12);
                return sheet[p][r];
            case "goAll": return goAll(p, q, r);
            case "wouldBe": return trying(() -> wouldBe(p, q, r));
            case "shelf": return putOnShelf(p, q, r);
            case "taken": return taken(p, q);
            case "act": return act(p, q, r);
            case "trace":
                refuse(!in(p, 0, trace.size() - 1), -3);
                return trace.get(p);
            case "many": {
                int[] all = {s.members.size(), s.rules.size(), Integer.bitCount(heard()), s.reports.size(), rows.size(),
                    tape.size(), trace.size()};
                refuse(!in(p, 0, 6), -1);
                return all[p];
            }
            case "keep":
                kept = s.copy();
                return 1;
            case "again":
                refuse(kept == null, -3);
                s = kept.copy();
                return s.members.size();
            default: throw new IllegalStateException(name);
        }
    }

    int member(int kind, int votes, int greed, int bench) {
        refuse(!in(kind, 1, 5) || !in(votes, 0, 9) || !in(greed, 0, 9) || !in(bench, 0, 5), -1);
        refuse(s.members.size() == 6, -2);
        Thing m = Thing.ofKind(kind);
        m.number = s.members.size();
        m.votes = votes;
        m.greed = greed;
        m.bench = bench;
        s.members.add(m);
        return m.number;
    }

    int memberOf(int k, int what) {
        Thing m = the(k);
        refuse(!in(what, 0, 8), -1);
        int lean = lean(m);
        int[] all = {m.kind, m.votes, m.greed, m.bench, m.heard ? 1 : 0, lean > 0 ? 2 : lean < 0 ? 0 : 1, weight(m),
            would(m) ? 1 : 0, List.of(DOS).indexOf(will(m))};
        return all[what];
    }

    int change(int k, int what, int v) {
        Thing m = the(k);
        refuse(!in(what, 1, 4), -1);
        refuse(!in(v, 0, what == 3 ? 5 : what == 4 ? 1 : 9), -1);
        int was = memberOf(k, what);
        if (what == 1) {
            m.votes = v;
        } else if (what == 2) {
            m.greed = v;
        } else if (what == 3) {
            m.bench = v;
        } else {
            m.heard = v == 1;
        }
        return was;
    }

    int remake(int k, int kind) {
        Thing m = the(k);
        refuse(!in(kind, 1, 5), -1);
        s.members.set(k, m.as(kind));
        return m.kind;
    }

    int rock(int what, int v) {
        refuse(!in(what, 0, 1) || !in(v, 0, what == 0 ? 9 : 999), -1);
        int was = what == 0 ? s.light : s.fund;
        if (what == 0) {
            s.light = v;
        } else {
            s.fund = v;
        }
        return was;
    }

    int state(int what) {
        refuse(!in(what, 0, 8), -1);
        int[] all = {s.night, s.end, s.score, over() ? 1 : 0, heard(), shipNow(), s.light, s.fund,
            Integer.compare(count(), 0) + 1};
        return all[what];
    }

    int when(int k) {
        refuse(the(k).heard, -3);
        return trying(() -> {
            while (!over()) {
                step(restAct());
                if (the(k).heard) {
                    return s.night - 1;
                }
            }
            return -3;
        });
    }

    int bestFor(int k, int what, int most) {
        the(k);
        int best = 0;
        int bestWorth = Integer.MIN_VALUE;
        for (int v = 0; v <= most; v++) {
            int with = v;
            int worth = trying(() -> {
                change(k, what, with);
                return rest(99);
            });
            if (worth > bestWorth) {
                best = v;
                bestWorth = worth;
            }
        }
        return best;
    }

    int fund(int v) {
        refuse(!in(v, 0, 999), -1);
        return trying(() -> {
            while (!over()) {
                step(restAct());
                if (s.fund >= v) {
                    return s.night - 1;
                }
            }
            return -3;
        });
    }

    int wrecks(int what) {
        refuse(!in(what, 0, 1), -1);
        return trying(() -> {
            int lost = 0;
            while (!over()) {
                step(restAct());
                lost += s.lostLatest ? 1 : 0;
            }
            return what == 0 ? lost : s.fund;
        });
    }

    boolean close(Thing one, Thing other) {
        if (one.heard || other.heard) {
            return false;
        }
        return one.bench == other.bench || lean(one) > 0 && lean(other) > 0 || lean(one) < 0 && lean(other) < 0;
    }

    /** By labels that spread. */
    int parties(int what) {
        refuse(what != -1 && !in(what, 0, s.members.size() - 1), -1);
        int many = s.members.size();
        int[] label = new int[many];
        for (int k = 0; k < many; k++) {
            label[k] = k;
        }
        for (int i = 0; i < many; i++) {
            for (int j = 0; j < many; j++) {
                if (close(the(i), the(j)) && label[i] != label[j]) {
                    int from = label[i];
                    int to = label[j];
                    for (int k = 0; k < many; k++) {
                        label[k] = label[k] == from ? to : label[k];
                    }
                }
            }
        }
        int labels = 0;
        int set = 0;
        for (int k = 0; k < many; k++) {
            if (!the(k).heard) {
                labels |= 1 << label[k];
                set |= what >= 0 && label[k] == label[what] ? 1 << k : 0;
            }
        }
        return what == -1 ? Integer.bitCount(labels) : the(what).heard ? 0 : set;
    }

    int power(int k) {
        the(k);
        int all = 0;
        for (Thing m : s.members) {
            all += weight(m);
        }
        return orders(new ArrayList<>(), all, k);
    }

    int orders(List<Thing> soFar, int all, int k) {
        if (soFar.size() == s.members.size()) {
            int weighed = 0;
            for (Thing m : soFar) {
                weighed += weight(m);
                if (weighed * 2 > all) {
                    return m.number == k ? 1 : 0;
                }
            }
            return 0;
        }
        int many = 0;
        for (Thing m : s.members) {
            if (!soFar.contains(m)) {
                soFar.add(m);
                many += orders(soFar, all, k);
                soFar.remove(m);
            }
        }
        return many;
    }

    // ---- plans

    record Plan(int[] acts, int worth, int heard) {}

    List<Plan> allPlans(int n) {
        refuse(!in(n, 0, 4), -1);
        int nights = Math.min(n, s.end - s.night);
        List<Plan> plans = new ArrayList<>();
        int[] acts = new int[nights];
        int kinds = s.members.size() + 1;
        int many = 1;
        for (int i = 0; i < nights; i++) {
            many *= kinds;
        }
        for (int number = 0; number < many; number++) {
            int left = number;
            for (int i = nights - 1; i >= 0; i--) {
                acts[i] = left % kinds;
                left /= kinds;
            }
            Stand real = s;
            s = real.copy();
            int worth = 0;
            for (int act : acts) {
                worth += step(act);
            }
            plans.add(new Plan(acts.clone(), worth, heard()));
            s = real;
        }
        return plans;
    }

    List<Plan> bestPlans(int n) {
        List<Plan> plans = allPlans(n);
        int most = plans.stream().mapToInt(Plan::worth).max().getAsInt();
        return plans.stream().filter(plan -> plan.worth == most).toList();
    }

    int agenda(int n, int set) {
        refuse(!in(n, 0, 4) || set < 0 || set >>> s.members.size() != 0, -1);
        int fewest = 99;
        for (Plan plan : allPlans(n)) {
            int acts = 0;
            for (int act : plan.acts) {
                acts += act != 0 ? 1 : 0;
            }
            if ((plan.heard & set) == set) {
                fewest = Math.min(fewest, acts);
            }
        }
        return fewest == 99 ? -3 : fewest;
    }

    int bars(int n, int set) {
        refuse(!in(n, 0, 4) || set < 0 || set >>> s.members.size() != 0, -1);
        List<Plan> plans = allPlans(n);
        for (int k = 0; k < s.members.size(); k++) {
            int bit = 1 << k;
            if ((set & bit) != 0 && plans.stream().noneMatch(plan -> (plan.heard & bit) != 0)) {
                return k;
            }
        }
        return -3;
    }

    /** Value, and the least act that comes to it. */
    int[] game(int n, boolean firstsTurn) {
        if (n == 0 || over()) {
            return new int[] {0, -3};
        }
        int[] best = null;
        for (int act = 0; act <= s.members.size(); act++) {
            int with = act;
            int worth = trying(() -> step(with) + game(n - 1, !firstsTurn)[0]);
            if (best == null || (firstsTurn ? worth > best[0] : worth < best[0])) {
                best = new int[] {worth, act};
            }
        }
        return best;
    }

    // ---- strangers

    boolean fits(int kind, int greed, int light, List<Report> reports) {
        Thing lone = Thing.ofKind(kind);
        lone.greed = greed;
        int fund = 0;
        for (int night = 0; night <= 15; night++) {
            for (Report report : reports) {
                int was = report.asked == 0 ? light : fund;
                if (report.nights == night && !in(was, report.least, report.most)) {
                    return false;
                }
            }
            int value = s.ships[night] / 4;
            int lean = lone.lean(night, value, light);
            light = lean > 0 ? Math.max(0, light - 2) : lean < 0 ? Math.min(9, light + 2) : light;
            if (value > 0 && light < 3 * (s.ships[night] % 4)) {
                fund += 5 * value;
            }
            light = toFive(light);
        }
        return true;
    }

    List<int[]> fitting(List<Report> reports) {
        List<int[]> all = new ArrayList<>();
        for (int kind = 1; kind <= 5; kind++) {
            for (int greed = 0; greed <= 9; greed++) {
                for (int light = 0; light <= 9; light++) {
                    if (fits(kind, greed, light, reports)) {
                        all.add(new int[] {kind, greed, light});
                    }
                }
            }
        }
        return all;
    }

    int lone(int what) {
        refuse(!in(what, 0, 3), -1);
        List<int[]> all = fitting(s.reports);
        refuse(what > 0 && all.isEmpty(), -3);
        return what == 0 ? all.size() : all.get(0)[what - 1];
    }

    int liar() {
        refuse(!fitting(s.reports).isEmpty(), -3);
        for (int r = 0; r < s.reports.size(); r++) {
            List<Report> others = new ArrayList<>(s.reports);
            others.remove(r);
            if (!fitting(others).isEmpty()) {
                return r;
            }
        }
        return -3;
    }

    int lot() {
        s.z = s.z * 1103515245 + 12345;
        return step((s.z >>> 16) % (s.members.size() + 1));
    }

    int times(int n, int v) {
        refuse(!in(n, 1, 40) || !in(v, 0, 999), -1);
        int many = 0;
        int[] z = {s.z};
        for (int i = 0; i < n; i++) {
            int worth = trying(() -> {
                s.z = z[0];
                int together = 0;
                while (!over()) {
                    together += lot();
                }
                z[0] = s.z;
                return together;
            });
            many += worth >= v ? 1 : 0;
        }
        return many;
    }

    int prove(int n) {
        int[] first = bestPlans(n).get(0).acts;
        List<int[]> made = new ArrayList<>();
        trying(() -> {
            for (int act : first) {
                int worth = step(act);
                made.add(new int[] {act, worth, heard()});
            }
            return 0;
        });
        rows = made;
        return made.size();
    }

    int judge() {
        for (int k = 0; k < rows.size(); k++) {
            int[] row = rows.get(k);
            if (over() || !in(row[0], 0, s.members.size()) || row[1] != step(row[0]) || row[2] != heard()) {
                return k + 1;
            }
        }
        return 0;
    }

    // ---- the host

    int makeSheet(int at, int of, int n) {
        refuse(!in(at, 0, 3) || !in(of, -1, 4), -1);
        refuse(of != -1 && n > 40, -1);
        refuse(of != -1 && n < 0, -14);
        sheet[at] = of == -1 ? null : new int[n];
        sort[at] = of;
        return 1;
    }

    int goAll(int at, int i, int n) {
        refuse(!in(at, 0, 3) || !in(n, 0, 20), -1);
        refuse(sheet[at] != null && sort[at] != 0, -13);
        refuse(sheet[at] == null, -11);
        int worth = 0;
        for (long place = i; place < (long) i + n; place++) {
            refuse(place < 0 || place >= sheet[at].length, -12);
            int act = sheet[at][(int) place];
            if (in(act, 0, s.members.size()) && !over()) {
                int more = step(act);
                s.score += more;
                worth += more;
            }
        }
        return worth;
    }

    int wouldBe(int at, int i, int n) {
        refuse(!in(at, 0, 3) || !in(n, 0, 20), -1);
        refuse(sheet[at] != null && sort[at] != 0, -13);
        refuse(sheet[at] == null, -11);
        int worth = 0;
        for (long place = i; place < (long) i + n; place++) {
            refuse(place < 0 || place >= sheet[at].length, -12);
            int act = sheet[at][(int) place];
            refuse(!in(act, 0, s.members.size()) || over(), -4);
            worth += step(act);
        }
        return worth;
    }

    int putOnShelf(int at, int what, int n) {
        refuse(!in(at, 0, 3) || !in(what, 0, 2), -1);
        refuse(what == 0 && !in(n, 0, s.members.size() - 1), -1);
        refuse(what == 1 && !in(n, 0, 3), -1);
        shelf[at] = what == 0 ? (Object) n : what == 2 || sheet[n] == null ? null : new Row(sort[n], sheet[n]);
        return 1;
    }

    Object held(int at) {
        Object held = shelf[at];
        if (held instanceof Integer k) {
            return k < s.members.size() ? s.members.get(k) : null;
        }
        return held;
    }

    int taken(int at, int as) {
        refuse(!in(at, 0, 3) || !in(as, 0, 5) && !in(as, 10, 14), -1);
        Object held = held(at);
        if (held instanceof Thing m) {
            refuse(as >= 10 || !isA(m.kind, as), -13);
            return m.number;
        }
        if (held instanceof Row row) {
            refuse(as != 10 + row.sort, -13);
            return row.items.length;
        }
        throw new Refused(-11);
    }

    int act(int at, int act, int x) {
        trace = new ArrayList<>();
        if (!in(at, 0, 3) || !in(act, 0, 3) || !(held(at) instanceof Thing)) {
            return 0;
        }
        Thing m = (Thing) held(at);
        m.trace = trace;
        return act == 0 ? m.moves(x) : act == 1 ? m.seconds(x) : act == 2 ? m.counts(x) : m.bows(x);
    }

    // ---- the tape

    int feed(long eight, int n) {
        refuse(!in(n, 1, 8), -1);
        refuse(tape.size() + n > 200, -2);
        for (int i = 0; i < n; i++) {
            tape.add((int) (eight & 255));
            eight >>= 8;
        }
        return tape.size();
    }

    int rules() {
        StringBuilder text = new StringBuilder();
        for (int sign : tape) {
            text.append((char) sign);
        }
        tape.clear();
        s.rules = new Reading(text.toString()).all();
        return s.rules.size();
    }

    /** Reads a text sign by sign, and refuses at the first word that can't stand there. */
    final class Reading {
        final String text;
        int at;

        Reading(String text) {
            this.text = text;
        }

        RuntimeException fault() {
            word();
            return new Refused(-100 - wordAt);
        }

        int wordAt;

        /** The next word, "" at the end; it stays. */
        String word() {
            int from = at;
            while (from < text.length() && text.charAt(from) == ' ') {
                from++;
            }
            wordAt = from;
            String left = text.substring(from);
            for (String signs : List.of("abcdefghijklmnopqrstuvwxyz", "0123456789")) {
                int to = 0;
                while (to < left.length() && signs.indexOf(left.charAt(to)) >= 0) {
                    to++;
                }
                if (to > 0) {
                    return left.substring(0, to);
                }
            }
            return left.isEmpty() ? "" : left.substring(0, 1);
        }

        void skip() {
            String word = word();
            at = wordAt + word.length();
        }

        boolean eat(String expected) {
            if (word().equals(expected)) {
                skip();
                return true;
            }
            return false;
        }

        int oneOf(List<String> words) {
            int found = words.indexOf(word());
            if (found < 0) {
                throw fault();
            }
            skip();
            return found;
        }

        void need(String expected) {
            if (!eat(expected)) {
                throw fault();
            }
        }

        List<Rule> all() {
            List<Rule> rules = new ArrayList<>();
            while (!word().isEmpty()) {
                if (rules.size() == 8) {
                    throw fault();
                }
                int kind = oneOf(List.of(KINDS));
                IntPredicate condition = eat("if") ? condition(0) : k -> true;
                int will = oneOf(List.of(DOS));
                need(";");
                rules.add(new Rule(kind, condition, will));
            }
            return rules;
        }

        IntPredicate condition(int open) {
            IntPredicate left = both(open);
            while (eat("or")) {
                left = left.or(both(open));
            }
            return left;
        }

        IntPredicate both(int open) {
            IntPredicate left = one(open);
            while (eat("and")) {
                left = left.and(one(open));
            }
            return left;
        }

        IntPredicate one(int open) {
            if (eat("not")) {
                return one(open).negate();
            }
            if (word().equals("(")) {
                if (open == 3) {
                    throw fault();
                }
                skip();
                IntPredicate inner = condition(open + 1);
                need(")");
                return inner;
            }
            ToIntFunction<Integer> left = value();
            int sign = oneOf(List.of("<", "=", ">"));
            ToIntFunction<Integer> right = value();
            return k -> Integer.compare(left.applyAsInt(k), right.applyAsInt(k)) == sign - 1;
        }

        ToIntFunction<Integer> value() {
            String word = word();
            if (word.matches("[0-9]{1,4}")) {
                skip();
                return k -> Integer.parseInt(word);
            }
            int fact = oneOf(FACTS);
            return k -> {
                Thing m = s.members.get(k);
                return new int[] {s.night, m.greed, m.votes, s.light, m.number}[fact];
            };
        }
    }
}
