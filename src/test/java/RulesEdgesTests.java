import java.util.Map;

/** Edges of THE TAPE and THE RULES: part 2 of the Terms, promises 13 and 14. */
public final class RulesEdgesTests extends Checks {
    public static void main(String[] args) throws IllegalAccessException {
        runAll(RulesEdgesTests.class);
    }

    /** A member of each kind but 0, and a wrecker once more: numbers 0 to 5. */
    private static WreckBoard six() {
        WreckBoard b = new WreckBoard();
        for (int k = 0; k < 6; k++) {
            b.member(k % 5 + 1, 4, 7, 0);
        }
        return b;
    }

    private static String fourDigits(int number) {
        return String.valueOf(10000 + number).substring(1);
    }

    /** That a text tells so many rules, or has its fault; the tape is used up, and rules stay by a fault. */
    private static void tells(String text, int want) {
        WreckBoard b = six();
        tell(b, "wrecker keep; lad trim;");
        String call = "rules() of \"" + text + "\"";
        due(call, tell(b, text), want);
        due(call + ": rules there are", b.many(1), want < 0 ? 2 : want);
        due(call + ": bytes there are", b.many(5), 0);
    }

    private static void faultAt(String text, int place) {
        tells(text, -100 - place);
    }

    // ---- promise 13: "n bytes (1 to 8) come to THE TAPE, the lowest of eight first"

    static void p13_feed_n1To8() {
        bounds("feed(0, ..)", 1, 8, (b, v) -> b.feed(0x2020202020202020L, v));
        for (int n = 1; n <= 8; n++) {
            WreckBoard b = new WreckBoard();
            due("feed(.., " + n + ")", b.feed(-1, n), n);
            due("bytes", b.many(5), n);
        }
    }

    static void p13_feed_theLowestFirst() {
        WreckBoard b = new WreckBoard();
        long eight = 0;
        for (int i = 7; i >= 0; i--) {
            eight = eight << 8 | "lad dim;".charAt(i);
        }
        due("feed", b.feed(eight, 8), 8);
        due("rules()", b.rules(), 1);
        for (int n = 1; n <= 8; n++) {
            WreckBoard part = new WreckBoard();
            // "l", "la", "lad", "lad ", "lad d", "lad di", "lad dim", all: where it is faulty.
            int[] fault = {0, 0, 3, 4, 4, 4, 7, -101};
            due("feed(.., " + n + ")", part.feed(eight, n), n);
            due("rules() of " + n, part.rules(), -100 - fault[n - 1]);
        }
    }

    static void p13_feed_whatIsAboveNIsNotTaken() {
        WreckBoard b = new WreckBoard();
        due("feed", b.feed(0xFFFFFFFFFFFF2020L, 2), 2);
        due("rules()", b.rules(), 0);
    }

    static void p13_feed_bytesOfANegativeNumber() {
        WreckBoard b = new WreckBoard();
        due("feed", b.feed(0xFF20202020202020L, 8), 8);
        due("rules(): byte 255 can't stand there", b.rules(), -107);
        due("feed", b.feed(Long.MIN_VALUE | 0x20202020202020L, 8), 8);
        due("rules(): byte 128 can't stand there", b.rules(), -107);
    }

    // ---- "FULL: more than 200."; "THE TAPE takes bytes, 200 at most"

    private static WreckBoard fed(int bytes) {
        WreckBoard b = six();
        feed(b, " ".repeat(bytes));
        return b;
    }

    static void p13_feed_200AtMost() {
        for (int n = 1; n <= 8; n++) {
            due("feed(.., " + n + ") behind " + (200 - n), fed(200 - n).feed(0x2020202020202020L, n), 200);
        }
        WreckBoard b = new WreckBoard();
        for (int bytes = 1; bytes <= 200; bytes++) {
            due("feed(.., 1)", b.feed(32, 1), bytes);
        }
        due("the 201st", b.feed(32, 1), FULL);
        due("bytes", b.many(5), 200);
        due("rules()", b.rules(), 0);
        due("behind that it is empty", b.feed(32, 8), 8);
    }

    static void p13_feed_full() {
        for (int n = 1; n <= 8; n++) {
            int bytes = n;
            refusedBy(() -> fed(201 - bytes), "feed(.., " + n + ") behind " + (201 - n), FULL,
                b -> b.feed('x', bytes));
            refusedBy(() -> fed(200), "feed(.., " + n + ") behind 200", FULL, b -> b.feed('x', bytes));
        }
    }

    static void p13_feed_badAheadOfFull() {
        for (int n : beside(1, 8)) {
            refusedBy(() -> fed(200), "feed(.., " + n + ") behind 200", BAD, b -> b.feed('x', n));
        }
    }

    static void p13_feed_allOf200AreRead() {
        String blanks = " ".repeat(192);
        tells("lad dim;" + blanks, 1);
        tells(blanks + "lad dim;", 1);
        faultAt(" ".repeat(199) + "x", 199);
        faultAt(" ".repeat(197) + "lad", 200);
        faultAt("lad" + " ".repeat(197), 200);
        faultAt("a".repeat(200), 0);
        faultAt(";".repeat(200), 0);
        faultAt("lad dim;".repeat(2) + "!".repeat(184), 16);
        faultAt("lad if " + "(".repeat(193), 10);
        faultAt("lad if not(" + "1=".repeat(94) + "1", 14);
        faultAt(" ".repeat(100) + "9".repeat(100), 100);
    }

    // ---- promise 14: "THE TAPE tells THE RULES (in place of all)"

    static void p14_rules_ofAnEmptyTape() {
        WreckBoard b = six();
        tell(b, "member trim;");
        due("rules()", b.rules(), 0);
        due("rules there are", b.many(1), 0);
        due("will", b.memberOf(0, 8), DIM);
    }

    static void p14_rules_inPlaceOfAll() {
        WreckBoard b = six();
        tell(b, "member trim; member keep;");
        due("rules()", tell(b, "lad keep;"), 1);
        due("rules there are", b.many(1), 1);
        due("will of a wrecker", b.memberOf(0, 8), DIM);
        due("will of a lad", b.memberOf(4, 8), KEEP);
    }

    /** "such a call changes nothing (but that THE TAPE is used up by rules())" */
    static void p14_rules_aFaultUsesUpTheTapeAlone() {
        WreckBoard b = rich();
        due("rules()", b.rules(), -119);
        due("bytes", b.many(5), 0);
        WreckBoard other = rich();
        other.rules();
        WreckBoard untouched = rich();
        Map<String, Integer> got = allOf(other);
        Map<String, Integer> want = allOf(untouched);
        got.keySet().removeIf(RulesEdgesTests::isOfTheTape);
        want.keySet().removeIf(RulesEdgesTests::isOfTheTape);
        same("behind a faulty rules()", got, want);
    }

    private static boolean isOfTheTape(String asked) {
        return asked.startsWith("many(5)") || asked.startsWith("bytes") || asked.startsWith("rules()")
            || asked.startsWith("will of");
    }

    static void p14_rules_aFaultBehindGoodOnes() {
        WreckBoard b = six();
        tell(b, "wrecker keep;");
        due("rules()", tell(b, "member trim; member trim; member"), -132);
        due("rules there are", b.many(1), 1);
        due("will of a wrecker", b.memberOf(0, 8), KEEP);
        due("will of a saver", b.memberOf(1, 8), DIM);
    }

    // ---- "8 RULES at most"; "(.. the first NAME of the ninth RULE, too)"

    static void p14_rules_8AtMost() {
        for (int many = 0; many <= 8; many++) {
            tells("lad dim;".repeat(many), many);
        }
        faultAt("lad dim;".repeat(9), 64);
        faultAt("lad dim;".repeat(8) + "  chair", 66);
        faultAt("lad dim;".repeat(8) + " 7", 65);
        faultAt("lad dim;".repeat(8) + ";", 64);
        tells("lad dim;".repeat(8) + "  ", 8);
        faultAt("lad dim;".repeat(20), 64);
    }

    static void p14_rules_theEighthTells() {
        WreckBoard b = six();
        due("rules()", tell(b, "lad dim;".repeat(7) + "wrecker if 1 = 1 and number = 5 trim;"), 8);
        due("will of 0", b.memberOf(0, 8), DIM);
        due("will of 5", b.memberOf(5, 8), TRIM);
    }

    // ---- "the first byte of the first NAME, NUMBER or other byte that can't stand there"

    private static final String[] KINDS = {"member", "wrecker", "saver", "chair", "farmer", "lad"};
    private static final String[] DOS = {"dim", "keep", "trim"};
    private static final String[] FACTS = {"night", "greed", "votes", "light", "number"};
    private static final String[] NUMBERS = {"0", "9", "00", "9999", "0000"};
    private static final String[] SIGNS = {"<", "=", ">"};
    private static final String[] WORDS = {"if", "and", "or", "not", "(", ")", ";"};
    private static final String SIGNS_OF_WORDS = "ijj!();";
    private static final String[] NOWHERE = {
        "x", "dimm", "di", "memberlad", "iff", "i", "z", "12345", "00000", "123456789", "\0", "\n", "\t", "!", "'", "*",
        "+", "-", ".", "/", ":", "?", "@", "A", "Z", "[", "`", "{", "~", "\u007f", "\u0080", "\u00a0", "\u00ff"
    };

    /**
     * Behind a text each thing that could come: those may stand there that signs tell, no other (K kinds, D what is
     * done, V values, S signs, i if, j and and or, ! not, the others themselves; . is the end).
     */
    private static void mayStand(String text, String which) {
        each(text, KINDS, which.contains("K"));
        each(text, DOS, which.contains("D"));
        each(text, FACTS, which.contains("V"));
        each(text, NUMBERS, which.contains("V"));
        each(text, SIGNS, which.contains("S"));
        for (int i = 0; i < WORDS.length; i++) {
            each(text, new String[] {WORDS[i]}, which.indexOf(SIGNS_OF_WORDS.charAt(i)) >= 0);
        }
        each(text, NOWHERE, false);
        faultUnlessEnd(text, which.contains("."));
    }

    private static void faultUnlessEnd(String text, boolean mayEnd) {
        for (String blanks : new String[] {"", " ", "    "}) {
            WreckBoard b = six();
            int got = tell(b, text + blanks);
            if (mayEnd) {
                due("rules() of \"" + text + blanks + "\" is refused", got < 0 ? 1 : 0, 0);
            } else {
                due("rules() of \"" + text + blanks + "\"", got, -100 - text.length() - blanks.length());
            }
        }
    }

    private static void each(String text, String[] things, boolean may) {
        for (String thing : things) {
            for (String blanks : new String[] {" ", "   "}) {
                String all = text + blanks + thing;
                int got = tell(six(), all);
                // What may stand there is told on to the end, where more must come, but for a ";".
                int want = -100 - (may ? all.length() : text.length() + blanks.length());
                if (may && thing.equals(";")) {
                    due("rules() of \"" + all + "\" is refused", got < 0 ? 1 : 0, 0);
                } else {
                    due("rules() of \"" + all + "\"", got, want);
                }
            }
        }
    }

    static void p14_fault_whereARuleBegins() {
        mayStand("", "K.");
        mayStand("   ", "K.");
        mayStand("lad dim;", "K.");
        mayStand("lad if 1 < 2 dim;", "K.");
    }

    static void p14_fault_behindAKind() {
        for (String kind : KINDS) {
            mayStand(kind, "iD");
        }
    }

    static void p14_fault_behindADo() {
        for (String what : DOS) {
            mayStand("lad " + what, ";");
        }
        mayStand("lad if 1 < 2 dim", ";");
    }

    static void p14_fault_whereAOneBegins() {
        mayStand("lad if", "!(V");
        mayStand("lad if not", "!(V");
        mayStand("lad if not not", "!(V");
        mayStand("lad if (", "!(V");
        mayStand("lad if ((", "!(V");
        mayStand("lad if 1 < 2 and", "!(V");
        mayStand("lad if 1 < 2 or", "!(V");
        mayStand("lad if 1 < 2 and 3 < 4 or not", "!(V");
        mayStand("lad if (1 < 2) and", "!(V");
    }

    static void p14_fault_behindAValue() {
        for (String fact : FACTS) {
            mayStand("lad if " + fact, "S");
        }
        for (String number : NUMBERS) {
            mayStand("lad if " + number, "S");
        }
    }

    static void p14_fault_behindASign() {
        for (String sign : SIGNS) {
            mayStand("lad if 1" + sign, "V");
            mayStand("lad if (night " + sign, "V");
        }
    }

    static void p14_fault_behindAComparison() {
        mayStand("lad if 1 < 2", "jD");
        mayStand("lad if night = number", "jD");
        mayStand("lad if 1 < 2 and 3 < 4", "jD");
        mayStand("lad if (1 < 2)", "jD");
        mayStand("lad if ((1 < 2))", "jD");
        mayStand("lad if (((1 < 2)))", "jD");
        mayStand("lad if (1 < 2", "j)");
        mayStand("lad if ((1 < 2)", "j)");
        mayStand("lad if (((1 < 2", "j)");
        mayStand("lad if (((1 < 2)", "j)");
        mayStand("lad if (1 < 2 or (3 < 4)", "j)");
    }

    // ---- "At most 3 "(" are open within one another."; "the fourth "(""

    static void p14_fault_theFourthThatIsOpen() {
        mayStand("lad if (((", "!V");
        mayStand("lad if ((( not", "!V");
        mayStand("lad if (((1 < 2 and", "!V");
        mayStand("lad if (((1 < 2) and", "!(V");
        tells("lad if (((1<2))) dim;", 1);
        faultAt("lad if ((((1<2)))) dim;", 10);
        faultAt("lad if ( ( (   (1<2)))) dim;", 15);
    }

    static void p14_rules_anyNumberOfThemSideBySide() {
        tells("lad if (1<2) and (1<2) and (1<2) and (1<2) and (1<2) dim;", 1);
        tells("lad if (((1<2) and (1<2)) or ((1<2) and (1<2))) and (((1<2))) dim;", 1);
        faultAt("lad if (1<2) and (((1<2) and ((1<2)))) dim;", 30);
    }

    // ---- "NAMES are rows of letters a to z, .. as long as they go; blanks (32) part them, and stand elsewhere"

    static void p14_names_asLongAsTheyGo() {
        faultAt("laddim;", 0);
        faultAt("ladif 1<2 dim;", 0);
        faultAt("lad dimdim;", 4);
        faultAt("lad if nightnight<2 dim;", 7);
        faultAt("lad if notnot 1<2 dim;", 7);
        faultAt("lad if 1<2 anddim;", 11);
        faultAt("l ad dim;", 0);
        faultAt("lad d im;", 4);
    }

    static void p14_names_eachLetterWhole() {
        String[][] all = {KINDS, DOS, FACTS, {"if", "and", "or", "not"}};
        String[] fronts = {"", "lad ", "lad if ", "lad if 1<2 "};
        for (int i = 0; i < all.length; i++) {
            for (String name : all[i]) {
                String front = name.equals("if") ? "lad " : name.equals("not") ? "lad if " : fronts[i];
                faultAt(front + name.substring(1), front.length());
                faultAt(front + name.substring(0, name.length() - 1), front.length());
                faultAt(front + name + "a", front.length());
                faultAt(front + "z" + name, front.length());
                faultAt(front + name.toUpperCase(), front.length());
                faultAt(front + name, front.length() + name.length());
                for (int at = 0; at < name.length(); at++) {
                    char sign = name.charAt(at) == 'q' ? 'j' : 'q';
                    faultAt(front + name.substring(0, at) + sign + name.substring(at + 1), front.length());
                }
            }
        }
    }

    static void p14_blanks_elsewhereAsOneLikes() {
        tells("", 0);
        tells(" ", 0);
        tells("  lad   if  1  <  2  and  (  not  3  =  4  )  dim  ;  ", 1);
        tells("lad if 1<2and(not 3=4)dim;lad if not(1<2)or 3=4keep;", 2);
        tells("lad if not(not(1<2))dim;", 1);
    }

    static void p14_blanks_noOtherByteIsOne() {
        for (char sign : new char[] {0, 9, 10, 11, 12, 13, 31, 33, 127, 128, 133, 160, 255}) {
            faultAt("lad" + sign + "dim;", 3);
            faultAt("lad dim;" + sign, 8);
            faultAt(sign + "lad dim;", 0);
        }
    }

    // ---- "NUMBERS rows of digits (1 to 4)"; "N are NUMBERS 0 to 9999."

    static void p14_numbers_1To4Digits() {
        tells("lad if 1<12 dim; lad if 123<1234 dim;", 2);
        tells("lad if 0000<0001 dim;", 1);
        faultAt("lad if 12345<1 dim;", 7);
        faultAt("lad if 1<  00001 dim;", 11);
        faultAt("lad if 1<10000 dim;", 9);
        faultAt("lad if 1<2 12345 dim;", 11);
        faultAt("12345", 0);
        faultAt("lad if 12 34<1 dim;", 10);
        faultAt("lad if 99999999999999999999<1 dim;", 7);
    }

    static void p14_numbers_eachDigit() {
        for (int digit = 0; digit <= 9; digit++) {
            for (int places = 1; places <= 1000; places *= 10) {
                WreckBoard b = six();
                int number = digit * places;
                tell(b, "member if " + fourDigits(number) + " = " + number + " keep;");
                due(fourDigits(number) + " = " + number, b.memberOf(0, 8), KEEP);
                int above = number + 1;
                tell(b, "member if " + fourDigits(number) + " < " + above + " and " + above + " > " + number
                    + " keep;");
                due(fourDigits(number) + " < " + above, b.memberOf(0, 8), KEEP);
            }
        }
        faultAt("lad if /<1 dim;", 7);
        faultAt("lad if :<1 dim;", 7);
    }

    private static void holds(WreckBoard b, int k, String condition, boolean want) {
        due("rules()", tell(b, "member if " + condition + " keep; member trim;"), 2);
        due(condition + " of " + k, b.memberOf(k, 8), want ? KEEP : TRIM);
    }

    static void p14_numbers_0And9999() {
        WreckBoard b = six();
        holds(b, 0, "9999 > 9998", true);
        holds(b, 0, "9999 < 9999", false);
        holds(b, 0, "9999 = 9999", true);
        holds(b, 0, "0 < 9999", true);
        holds(b, 0, "0 = 0000", true);
        holds(b, 0, "0 > 0", false);
        holds(b, 0, "night < 9999", true);
        holds(b, 0, "number < 0", false);
    }

    // ---- "SIGN: < | = | >", "FACTS: the NIGHT that goes by; its GREED, its VOTES, LIGHT then; its number."

    static void p14_signs_belowSameAbove() {
        String[] facts = {"night", "greed", "votes", "light", "number"};
        int[] are = {2, 7, 4, 8, 5};
        for (int i = 0; i < facts.length; i++) {
            for (int by = -1; by <= 1; by++) {
                WreckBoard b = six();
                b.night();
                b.night();
                b.change(5, 1, 4);
                b.rock(0, 8);
                int n = are[i] + by;
                holds(b, 5, facts[i] + " < " + n, by > 0);
                holds(b, 5, facts[i] + " = " + n, by == 0);
                holds(b, 5, facts[i] + " > " + n, by < 0);
                holds(b, 5, n + " < " + facts[i], by < 0);
                holds(b, 5, n + " = " + facts[i], by == 0);
                holds(b, 5, n + " > " + facts[i], by > 0);
            }
        }
    }

    static void p14_facts_nightThatGoesBy() {
        WreckBoard b = new WreckBoard();
        b.member(WRECKER, 4, 1, 0);
        allShips(b, 0);
        tell(b, "member if night = 1 dim; member keep;");
        due("night 0: keep", b.night(), 0);
        due("night 1: dim", b.night(), 2);
        due("heard", b.state(4), 1);
        b.anew();
        due("when", b.when(0), 1);
    }

    static void p14_facts_lightThen() {
        WreckBoard b = new WreckBoard();
        b.member(WRECKER, 4, 1, 0);
        allShips(b, 0);
        b.rock(0, 9);
        tell(b, "member if light > 6 keep;");
        // 9, 8, 7: keep; then by 6 it dims.
        due("when", b.when(0), 3);
        b.rock(0, 0);
        due("when", b.when(0), 0);
    }

    static void p14_facts_votesThen() {
        WreckBoard b = new WreckBoard();
        b.member(SAVER, 3, 1, 0);
        allShips(b, 0);
        tell(b, "member if votes < 2 trim;");
        acts(b, 1, 1, 1);
        due("dim, dim, trim", b.goAll(0, 0, 3), 2);
        due("votes", b.memberOf(0, 1), 1);
        due("heard", b.state(4), 1);
    }

    // ---- "ALL { or ALL }", "ONE { and ONE }", "{ not }"

    static void p14_conds_notBindsFirstThenAnd() {
        String[] truths = {"0=1", "1=1"};
        for (int all = 0; all < 8; all++) {
            boolean x = (all & 1) == 1;
            boolean y = (all & 2) == 2;
            boolean z = (all & 4) == 4;
            String a = truths[all & 1];
            String o = truths[all >> 1 & 1];
            String e = truths[all >> 2 & 1];
            WreckBoard b = six();
            holds(b, 0, a + " or " + o + " and " + e, x || y && z);
            holds(b, 0, a + " and " + o + " or " + e, x && y || z);
            holds(b, 0, "(" + a + " or " + o + ") and " + e, (x || y) && z);
            holds(b, 0, a + " and (" + o + " or " + e + ")", x && (y || z));
            holds(b, 0, "not " + a + " and " + o, !x && y);
            holds(b, 0, "not " + a + " or " + o, !x || y);
            holds(b, 0, "not (" + a + " and " + o + ")", !(x && y));
            holds(b, 0, a + " and not " + o + " and not not " + e, x && !y && z);
            holds(b, 0, a + " or not (" + o + " or not (" + e + " and not (" + a + ")))", x || !(y || !(z && !x)));
        }
    }

    static void p14_conds_asManyAsTheTapeHolds() {
        WreckBoard b = six();
        String ands = "1=1" + " and 1=1".repeat(21);
        String ors = "1=2" + " or 1=2".repeat(22);
        holds(b, 0, ands, true);
        due("and one that isn't so", tell(b, "member if 1=2 and " + ands + " keep;"), 1);
        due("will", b.memberOf(0, 8), DIM);
        holds(b, 0, ors, false);
        due("or one that is so", tell(b, "member if 1=1 or " + ors + " keep;"), 1);
        due("will", b.memberOf(0, 8), KEEP);
        due("not, 45 times", tell(b, "member if " + "not ".repeat(45) + "1=2 keep;"), 1);
        due("will", b.memberOf(0, 8), KEEP);
        due("not, 44 times", tell(b, "member if " + "not ".repeat(44) + "1=2 keep;"), 1);
        due("will", b.memberOf(0, 8), DIM);
    }

    // ---- "the first of THE RULES whose KIND is its or above it, and whose condition holds, tells it"

    static void p14_will_kindIsItsOrAbove() {
        String[] under = {"012345", "05", "12", "2", "34", "4"};
        for (int of = 0; of < KINDS.length; of++) {
            WreckBoard b = six();
            tell(b, KINDS[of] + " trim;");
            for (int k = 0; k < 6; k++) {
                boolean told = of == 0 || under[of].indexOf('0' + k) >= 0;
                due("will of " + k + " by a rule for each " + KINDS[of], b.memberOf(k, 8), told ? TRIM : DIM);
            }
        }
    }

    static void p14_will_theFirstThatHolds() {
        WreckBoard b = six();
        tell(b, "saver trim; member if 1 = 2 trim; farmer keep; lad trim; member dim; member trim;");
        int[] want = {DIM, TRIM, TRIM, KEEP, KEEP, DIM};
        for (int k = 0; k < 6; k++) {
            due("will of " + k, b.memberOf(k, 8), want[k]);
        }
    }

    static void p14_will_dimIfNoRuleTells() {
        WreckBoard b = six();
        tell(b, "member if votes > 4 trim; member if votes < 4 keep;");
        due("will by votes 4", b.memberOf(0, 8), DIM);
        b.change(0, 1, 5);
        due("will by votes 5", b.memberOf(0, 8), TRIM);
        b.change(0, 1, 3);
        due("will by votes 3", b.memberOf(0, 8), KEEP);
    }
}
