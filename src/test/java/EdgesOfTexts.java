/**
 * The edges of what is told: promises 1 to 6, and of the Terms SMITHY, RULES and FAULTS. Ahead of each test stands
 * the sentence of ../shared/DOC.md that it holds.
 */
public final class EdgesOfTexts extends Bench {
    private static final String PLAIN = "smithy 1 20 1";
    private static final String ONE_SMITH = PLAIN + ";smith 5";
    private static final String RICH = "smithy 2 30 6;smith 10;smith 8;smith 15;job 0 face 3 15 5;"
        + "job 1 beak 2 12 7;job 2 weld 2 20 9;job 0 heel 1 5 3;part 1 2";

    public static void main(String[] args) {
        runAll(EdgesOfTexts.class);
    }

    private static int smithyAnswer(String text) {
        return smithy(new OneAnvil(), text);
    }

    private static int ruleAnswer(String text) {
        return rule(new OneAnvil(), text);
    }

    private static void smithyFault(String text, int place, int code) {
        due("\"" + text + "\"", smithyAnswer(text), fault(place, code));
    }

    private static void ruleFault(String text, int place, int code) {
        due("\"" + text + "\"", ruleAnswer(text), fault(place, code));
    }

    // ---- Promise 1: A new object

    // "OneAnvil(): No SMITHY"
    static void newObjectHasNoSmithy() {
        OneAnvil o = new OneAnvil();
        due("SMITH", o.smith(0, 0), -2);
        due("JOB", o.job(0, 0), -2);
        due("part", o.worn(0), -1);
        due("MOMENT", o.moment(), -1);
        due("ALL", o.all(), -1);
        for (int k = 0; k <= 4; k++) due("count " + k, o.count(k), 0);
        for (int k = 7; k <= 14; k++) due("count " + k, o.count(k), 0);
    }

    // "no RULES"
    static void newObjectHasNoRules() {
        OneAnvil o = new OneAnvil();
        due("RULES", o.count(5), 0);
        due("force", o.force(0), -2);
    }

    // "none IN FORCE."
    static void newObjectHasNoRuleInForce() {
        due("count", new OneAnvil().count(6), -1);
        due("which was", new OneAnvil().force(-1), -1);
    }

    // ---- Promise 2: feed

    // "Twenty bytes come behind the TAPE, ..: how many it has"
    static void feedCountsTheBytes() {
        OneAnvil o = new OneAnvil();
        for (int k = 1; k <= 20; k++) due("feed " + k, o.feed(0, 0, 0, 0, 0), 20 * k);
        OneAnvil p = new OneAnvil();
        p.feed(0, 0, 0, 0, 0);
        p.end(7);
        due("behind 7", p.feed(0, 0, 0, 0, 0), 27);
    }

    // "of each number the highest first"
    static void feedTakesTheHighestByteFirst() {
        OneAnvil o = new OneAnvil();
        o.feed(0x736d6974, 0x68792031, 0x20323020, 0x31202020, 0x20202020);
        due("smithy 1 20 1", o.smithy(), 0);
        OneAnvil p = new OneAnvil();
        p.feed(0x736d6974, 0x68792031, 0x20323020, 0x31ff2020, 0x20202020);
        due("255 is a byte, too", p.smithy(), fault(13, 0));
        OneAnvil q = new OneAnvil();
        q.feed(0xf36d6974, 0, 0, 0, 0);
        due("and as the highest one", q.smithy(), fault(0, 0));
    }

    // "NONE, ..., if it would have more than 400"
    static void feedBeyond400() {
        OneAnvil o = new OneAnvil();
        for (int k = 0; k < 19; k++) o.feed(0, 0, 0, 0, 0);
        due("400", o.feed(0, 0, 0, 0, 0), 400);
        due("420", o.feed(0, 0, 0, 0, 0), -1);
        o.end(381);
        due("401", o.feed(0, 0, 0, 0, 0), -1);
        o.end(380);
        due("400 again", o.feed(0, 0, 0, 0, 0), 400);
    }

    // "and none comes"
    static void feedBeyond400BringsNone() {
        OneAnvil o = new OneAnvil();
        tell(o, PLAIN + times(" ", 368));
        refused(o, -1, () -> o.feed(0x3b3b3b3b, 0, 0, 0, 0));
        due("381", o.count(14), 381);
        due("not one of them", o.smithy(), 0);
        OneAnvil p = new OneAnvil();
        tell(p, PLAIN + times(" ", 387));
        refused(p, -1, () -> p.feed(0, 0, 0, 0, 0));
        due("nor over the others", p.smithy(), 0);
    }

    // ---- Promise 3: end

    // "The TAPE has its first n bytes alone: n"
    static void endKeepsTheFirstBytes() {
        OneAnvil o = new OneAnvil();
        tell(o, PLAIN + "xyz");
        due("13", o.end(13), 13);
        due("has 13", o.count(14), 13);
        due("as many as it has", o.end(13), 13);
        due("the first ones", o.smithy(), 0);
        due("0 of none", o.end(0), 0);
        o.feed(0, 0, 0, 0, 0);
        due("0 of 20", o.end(0), 0);
        due("has none", o.count(14), 0);
    }

    // "NONE, and nothing happens, if it has not so many"
    static void endBeyondTheTape() {
        OneAnvil o = new OneAnvil();
        refused(o, -1, () -> o.end(1), () -> o.end(FAR_ABOVE));
        o.feed(0, 0, 0, 0, 0);
        refused(o, -1, () -> o.end(21), () -> o.end(400), () -> o.end(FAR_ABOVE));
        o.end(19);
        refused(o, -1, () -> o.end(20));
    }

    // "or n is below 0"
    static void endBelowNone() {
        OneAnvil o = new OneAnvil();
        refused(o, -1, () -> o.end(-1));
        o.feed(0, 0, 0, 0, 0);
        refused(o, -1, () -> o.end(-1), () -> o.end(-20), () -> o.end(FAR_BELOW));
    }

    // ---- Promise 4: smithy

    // "The TAPE, which is empty then, is the SMITHY"
    static void smithyEmptiesTheTape() {
        OneAnvil o = of(PLAIN);
        due("told", o.count(14), 0);
        due("nothing is left", o.end(1), -1);
        smithy(o, "smithy x");
        due("at fault", o.count(14), 0);
        due("an empty TAPE", o.smithy(), fault(0, 0));
    }

    // "in place of the one there was (MOMENT 0,": HEATS, waits, BURNT, cold BLOWS, ASIDE and what is worn are as told
    static void smithyBeginsAnew() {
        OneAnvil o = of(RICH, "strike 1", "strike 0");
        go(o, 7);
        due("JOBS", smithy(o, RICH), 4);
        due("aside", o.aside(0), 3);
        o.force(0);
        go(o, 2);
        o.force(1);
        go(o, 4);
        o.force(0);
        go(o, 1);
        dueRow("waits, BURNT, cold", new int[] {o.smith(2, 3), o.smith(2, 6), o.smith(0, 8)}, 1, 1, 3);
        due("JOBS", smithy(o, RICH), 4);
        OneAnvil fresh = by(RICH, "strike 1", "strike 0");
        due("as on a new object", seen(o).equals(seen(fresh)) ? 1 : 0, 1);
        o.force(-1);
        go(o, 7);
        due("and goes on so", o.count(8), 15);
        due("another one", smithy(o, PLAIN), 0);
        due("its SMITHS are gone", o.smith(0, 0), -2);
        due("its JOBS are gone", o.job(0, 0), -2);
        due("what was worn is gone", o.worn(1), 0);
    }

    // "no NOTES"
    static void smithyForgetsNotes() {
        OneAnvil o = of(RICH);
        o.note(0, 0, 99);
        due("JOBS", smithy(o, RICH), 4);
        due("NOTES", o.count(11), 0);
        due("none speaks against it", o.ruled(0), 1);
    }

    // "nothing to be UNDONE"
    static void smithyCantBeUndone() {
        OneAnvil o = of(RICH);
        go(o, 3);
        smithy(o, PLAIN);
        due("count", o.count(12), 0);
        refused(o, -1, () -> o.undo());
    }

    // "the RULE IN FORCE, x, IMAGES stay"
    static void smithyLetsTheseStay() {
        OneAnvil o = of(RICH, "strike 1", "strike 0");
        o.force(1);
        o.seed(77);
        go(o, 2);
        o.image(3);
        smithy(o, PLAIN);
        due("RULES", o.count(5), 2);
        due("RULE IN FORCE", o.count(6), 1);
        due("x", o.count(13), 77);
        due("an IMAGE that was made", o.back(3), 2);
        due("of the other SMITHY", o.count(4), 4);
        due("one that wasn't", o.back(2), -1);
    }

    // "how many JOBS"
    static void smithyTellsHowManyJobs() {
        due("none", smithyAnswer(PLAIN), 0);
        due("one", smithyAnswer(ONE_SMITH + ";job 0 face 1 1 0"), 1);
        due("eight", smithyAnswer(ONE_SMITH + times(";job 0 face 1 1 0", 8)), 8);
    }

    // "-2 - its FAULT, and all else stays."
    static void smithyAtFaultChangesNothing() {
        OneAnvil o = of(RICH, "strike 1", "strike 0");
        go(o, 4);
        o.note(3, 0, 1);
        o.seed(9);
        o.force(1);
        tell(o, "");
        String before = seen(o);
        due("late in the text", smithy(o, "smithy 9 99 999;smith 1;job 0 heel 30 50 50;part 0 7;part 2 8;"), fault(62, 0));
        due("all is as it was", before.equals(seen(o)) ? 1 : 0, 1);
        due("UNDO", o.undo(), 3);
        o.force(-1);
        due("goes on as before", o.moment() * 10 + o.moment(), 21);
        due("a JOB of old is done", o.job(0, 5), 5);
    }

    // ---- Promise 5: rule

    // "The TAPE, which is empty then, is a RULE: its number"
    static void ruleIsNumbered() {
        OneAnvil o = new OneAnvil();
        for (int k = 0; k < 6; k++) {
            due("number", rule(o, "strike " + k), k);
            due("the TAPE is empty", o.count(14), 0);
        }
        due("RULES", o.count(5), 6);
        due("none of them is IN FORCE", o.count(6), -1);
    }

    // "-2 - its FAULT" (and it is none)
    static void ruleAtFaultIsNone() {
        OneAnvil o = of(RICH, "strike 1");
        due("at fault", rule(o, "strike 0;strike"), fault(15, 0));
        due("the TAPE is empty", o.count(14), 0);
        due("RULES", o.count(5), 1);
        due("no such RULE", o.force(1), -2);
        due("an empty TAPE", o.rule(), fault(0, 0));
        due("the next number", rule(o, "strike 0"), 1);
        o.force(0);
        o.moment();
        due("RULE 0 is as it was", o.smith(0, 8), 1);
    }

    // "-2 - its FAULT": nothing of it comes into the RULE that is told next
    static void ruleAtFaultLeavesNothing() {
        OneAnvil o = of(RICH);
        due("60 and one more", rule(o, "strike 1" + times("+1", 60)), fault(127, 3));
        due("60", rule(o, "strike 0" + times("*1", 59)), 0);
        due("CLAUSES", rule(o, "strike 0 if 1=2;strike 1;strike 1;strike"), fault(40, 0));
        due("one CLAUSE", rule(o, "strike 1 if 1=2"), 1);
        for (int rule = 0; rule < 2; rule++) {
            o.force(rule);
            o.moment();
            due("no one strikes by RULE " + rule, o.smith(0, 8), 0);
        }
    }

    // "NONE, and nothing happens: there are 6."
    static void ruleBeyondSix() {
        OneAnvil o = of(PLAIN, "strike 1", "strike 1", "strike 1", "strike 1", "strike 1", "strike 1");
        tell(o, "strike 1");
        refused(o, -1, () -> o.rule());
        due("the TAPE stays", o.count(14), 8);
        tell(o, "strike");
        refused(o, -1, () -> o.rule());
        tell(o, "");
        refused(o, -1, () -> o.rule());
    }

    // ---- Promise 6: force

    // "A RULE is IN FORCE (NONE: none): which was"
    static void forceTellsWhichWas() {
        OneAnvil o = of(RICH, "strike 1", "strike 0", "strike 1", "strike 1", "strike 1", "strike 0");
        due("was none", o.force(5), -1);
        due("was 5", o.force(0), 5);
        due("was 0", o.force(0), 0);
        o.moment();
        due("RULE 0 strikes", o.smith(0, 8), 1);
        o.force(5);
        o.moment();
        due("RULE 5 heats", o.smith(0, 0), 10);
        due("was 5 again", o.force(-1), 5);
        due("was none", o.force(-1), -1);
    }

    // "-2, and nothing happens, if there is none such."
    static void forceWithoutSuchARule() {
        OneAnvil o = new OneAnvil();
        refused(o, -2, () -> o.force(0), () -> o.force(-2), () -> o.force(FAR_ABOVE));
        OneAnvil p = by(PLAIN, "strike 1", "strike 0");
        refused(p, -2, () -> p.force(2), () -> p.force(5), () -> p.force(-2), () -> p.force(FAR_BELOW));
        OneAnvil q = of(PLAIN, "strike 1", "strike 1", "strike 1", "strike 1", "strike 1", "strike 1");
        q.force(5);
        refused(q, -2, () -> q.force(6));
    }

    // ---- Terms: a SMITHY

    // "A SMITHY is a text of at most 400 bytes"
    static void smithyOf400Bytes() {
        OneAnvil o = new OneAnvil();
        due("as far as to its last byte", smithy(o, PLAIN + times(" ", 376) + ";part 2 999"), 0);
        due("the last one counts", o.worn(2), 999);
        smithyFault(PLAIN + ";" + times(" ", 386), 400, 0);
    }

    // "CLAUSE { ; CLAUSE }, 40 at most"; "4 one CLAUSE too many .. (at its first byte)"
    static void smithyOf40Clauses() {
        due("40", smithyAnswer(PLAIN + times(";part 0 1", 39)), 0);
        smithyFault(PLAIN + times(";part 0 1", 40), 13 + 39 * 9 + 1, 4);
        smithyFault(PLAIN + times(";part 0 1", 39) + ";  part", 13 + 39 * 9 + 3, 4);
        OneAnvil o = new OneAnvil();
        due("the 40th counts", smithy(o, PLAIN + times(";part 0 1", 38) + ";part 0 7") + o.worn(0), 7);
    }

    // "CLAUSE { ; CLAUSE }": one at least, a ; between them alone
    static void smithyOfNoClause() {
        smithyFault("", 0, 0);
        smithyFault("  ", 2, 0);
        smithyFault(";" + PLAIN, 0, 0);
        smithyFault(PLAIN + ";", 14, 0);
        smithyFault(PLAIN + ";;smith 1", 14, 0);
        smithyFault(PLAIN + " smith 1", 14, 0);
        smithyFault(PLAIN + ",smith 1", 13, 0);
    }

    /** A NUMBER from low to high: what is a little outside of it is at fault at its first byte. */
    private static void range(String head, String tail, int low, int high) {
        int place = head.length();
        due(head + low, smithyAnswer(head + low + tail) >= 0 ? 1 : 0, 1);
        due(head + high, smithyAnswer(head + high + tail) >= 0 ? 1 : 0, 1);
        if (low > 0) smithyFault(head + (low - 1) + tail, place, 1);
        smithyFault(head + (high + 1) + tail, place, 1);
        smithyFault(head + 99999 + tail, place, 1);
        String digits = "00000" + low;
        due("five digits", smithyAnswer(head + digits.substring(digits.length() - 5) + tail) >= 0 ? 1 : 0, 1);
        smithyFault(head + digits.substring(digits.length() - 6) + tail, place, 1);
        smithyFault(head + "4294967297" + tail, place, 1);
        smithyFault(head + "x" + tail, place, 0);
        smithyFault(head + "-1" + tail, place, 0);
        smithyFault(head, place, 0);
    }

    // "smithy NUMBER NUMBER NUMBER (COOL 1 to 9,"
    static void coolFrom1To9() {
        range("smithy ", " 20 1", 1, 9);
        due("1", of("smithy 1 20 1").count(0), 1);
        due("9", of("smithy 9 20 1").count(0), 9);
    }

    // "BURN 20 to 99,"
    static void burnFrom20To99() {
        range("smithy 1 ", " 1", 20, 99);
        due("20", of("smithy 1 20 1").count(1), 20);
        due("99", of("smithy 1 99 1").count(1), 99);
    }

    // "STRENGTH of each PART 1 to 999;"
    static void strengthFrom1To999() {
        range("smithy 1 20 ", "", 1, 999);
        due("1", of("smithy 1 20 1").count(2), 1);
        due("999", of("smithy 1 20 999").count(2), 999);
    }

    // "once, the first CLAUSE)"; "4 .. a second smithy, another CLAUSE ahead of it .. (at its first byte)"
    static void smithyOnceAndFirst() {
        smithyFault("smith 5", 0, 4);
        smithyFault(" smith 5;" + PLAIN, 1, 4);
        smithyFault("job 0 face 1 1 0", 0, 4);
        smithyFault("part 0 1;" + PLAIN, 0, 4);
        smithyFault(PLAIN + ";" + PLAIN, 14, 4);
        smithyFault(PLAIN + ";smith 5; smithy", 23, 4);
    }

    // "smith NUMBER (QUICK 1 to 20)"
    static void quickFrom1To20() {
        range(PLAIN + ";smith ", "", 1, 20);
        due("1", of(PLAIN + ";smith 1").smith(0, 7), 1);
        due("20", of(PLAIN + ";smith 20").smith(0, 7), 20);
    }

    // "job NUMBER .. (a SMITH that was told;"
    static void jobOfASmithThatWasTold() {
        smithyFault(PLAIN + ";job 0 face 1 1 0", 18, 1);
        smithyFault(PLAIN + ";job 0 face 1 1 0;smith 5", 18, 1);
        due("of 0", smithyAnswer(ONE_SMITH + ";job 0 face 1 1 0"), 1);
        smithyFault(ONE_SMITH + ";job 1 face 1 1 0", 26, 1);
        due("of 2", smithyAnswer(PLAIN + times(";smith 5", 3) + ";job 2 face 1 1 0"), 1);
        smithyFault(PLAIN + times(";smith 5", 3) + ";job 3 face 1 1 0", 42, 1);
    }

    // "PART: face, beak, heel or weld, which is face and beak;"
    static void partsByTheirNames() {
        String[] parts = {"face", "beak", "heel", "weld"};
        for (int k = 0; k < 4; k++) due(parts[k], of(ONE_SMITH + ";job 0 " + parts[k] + " 1 1 0").job(0, 1), k);
        for (String odd : new String[] {"fac", "faces", "Face", "anvil", "0", "w", "job"}) {
            smithyFault(ONE_SMITH + ";job 0 " + odd + " 1 1 0", 28, 0);
        }
        smithyFault(ONE_SMITH + ";job 0", 27, 0);
    }

    // "BLOWS 1 to 30;"
    static void blowsFrom1To30() {
        range(ONE_SMITH + ";job 0 face ", " 1 0", 1, 30);
        due("30", of(ONE_SMITH + ";job 0 face 30 1 0").job(0, 2), 30);
    }

    // "HEAT 1 to 50, from which on it is HOT;"
    static void heatFrom1To50() {
        range(ONE_SMITH + ";job 0 face 1 ", " 0", 1, 50);
        due("50", of(ONE_SMITH + ";job 0 face 1 50 0").job(0, 3), 50);
    }

    // "PAY 0 to 50)"
    static void payFrom0To50() {
        range(ONE_SMITH + ";job 0 face 1 1 ", "", 0, 50);
        due("0", of(ONE_SMITH + ";job 0 face 1 1 0").job(0, 4), 0);
        due("50", of(ONE_SMITH + ";job 0 face 1 1 50").job(0, 4), 50);
    }

    // "part NUMBER NUMBER (0 face, 1 beak, 2 heel;"
    static void partFrom0To2() {
        range(PLAIN + ";part ", " 0", 0, 2);
        for (int k = 0; k < 3; k++) due("part " + k, of(PLAIN + ";part " + k + " 5").worn(k), 5);
    }

    // "how much it is worn already, 0 to 999;"
    static void wornFrom0To999() {
        range(PLAIN + ";part 0 ", "", 0, 999);
        due("999", of(PLAIN + ";part 0 999").worn(0), 999);
    }

    // "of one the last told, 0 without)"
    static void ofOnePartTheLastTold() {
        OneAnvil o = of(PLAIN + ";part 1 9;part 0 3;part 1 4;part 0 0");
        dueRow("worn", new int[] {o.worn(0), o.worn(1), o.worn(2)}, 0, 4, 0);
    }

    // "0 without)": also behind a text, be it at fault, that told of them
    static void partsAreWorn0Without() {
        OneAnvil o = of(PLAIN + ";part 0 7;part 1 8;part 2 9");
        due("JOBS", smithy(o, PLAIN), 0);
        dueRow("worn", new int[] {o.worn(0), o.worn(1), o.worn(2)}, 0, 0, 0);
        due("at fault", smithy(o, PLAIN + ";part 0 7;part 1 8;part 2 9;"), fault(41, 0));
        due("JOBS", smithy(o, PLAIN + ";part 1 3"), 0);
        dueRow("worn", new int[] {o.worn(0), o.worn(1), o.worn(2)}, 0, 3, 0);
    }

    // "SMITHS 0 to 2"; "4 .. a fourth SMITH .. (at its first byte)"
    static void threeSmithsAtMost() {
        OneAnvil o = of(PLAIN + ";smith 3;smith 2;smith 1");
        dueRow("in the order told", new int[] {o.smith(0, 7), o.smith(1, 7), o.smith(2, 7)}, 3, 2, 1);
        due("SMITHS", o.count(3), 3);
        smithyFault(PLAIN + times(";smith 5", 4), 38, 4);
        smithyFault(PLAIN + times(";smith 5", 3) + "; smith", 39, 4);
        due("none at all", of(PLAIN).count(3), 0);
    }

    // "JOBS 0 to 7, in the order told."; "4 .. a ninth JOB (at its first byte)"
    static void eightJobsAtMost() {
        String eight = "";
        for (int k = 1; k <= 8; k++) eight += ";job 0 face " + k + " 1 0";
        OneAnvil o = of(ONE_SMITH + eight);
        for (int k = 0; k < 8; k++) due("in the order told", o.job(k, 2), k + 1);
        due("the first of theirs", o.smith(0, 1), 0);
        smithyFault(ONE_SMITH + eight + ";job 0 face 1 1 0", 22 + 8 * 17, 4);
        smithyFault(ONE_SMITH + eight + ";  job 7", 22 + 8 * 17 + 2, 4);
    }

    // "It is MOMENT 0; all iron is cold (HEAT 0)."
    static void atFirstAllIsCold() {
        OneAnvil o = of(RICH);
        due("MOMENT", o.count(7), 0);
        for (int k = 0; k < 3; k++) due("HEAT", o.smith(k, 0), 0);
    }

    // ---- Terms: RULES

    // "RULES 0 to 5: texts likewise, 12 CLAUSES at most"; "4 one CLAUSE too many .. (at its first byte)"
    static void ruleOf12Clauses() {
        due("12", ruleAnswer(times("strike 1;", 11) + "strike 1"), 0);
        ruleFault(times("strike 1;", 12) + "strike 1", 108, 4);
        ruleFault(times("strike 1;", 12) + "  strike", 110, 4);
        OneAnvil o = by(ONE_SMITH + ";job 0 face 1 1 0", times("strike 0 if 1=2;", 11) + "strike 1");
        o.moment();
        due("the 12th counts", o.smith(0, 8), 1);
    }

    // "texts likewise": one CLAUSE at least, a ; between them alone, 400 bytes at most
    static void ruleOfNoClause() {
        ruleFault("", 0, 0);
        ruleFault("   ", 3, 0);
        ruleFault(";strike 1", 0, 0);
        ruleFault("strike 1;", 9, 0);
        ruleFault("strike 1;;strike 1", 9, 0);
        ruleFault("strike 1 strike 1", 9, 0);
        ruleFault("strike 1,strike 1", 8, 0);
        due("400 bytes", ruleAnswer("strike 1 +" + times(" ", 389) + "1"), 0);
        ruleFault("strike 1 +" + times(" ", 390), 400, 0);
    }

    // "strike SUM [ if TEST ]."
    static void strikeSumIfTest() {
        ruleFault("strike", 6, 0);
        ruleFault("strike ", 7, 0);
        ruleFault("strike if 1=1", 7, 0);
        ruleFault("strike 1 if", 11, 0);
        ruleFault("strike 1 1=1", 9, 0);
        ruleFault("strike 1 if 1=1 if 1=1", 16, 0);
        ruleFault("strike 1=1", 8, 0);
        ruleFault("strike [1]", 7, 0);
        ruleFault("strike 1 and 1", 9, 0);
        ruleFault("strikes 1", 0, 0);
        ruleFault("Strike 1", 0, 0);
        ruleFault("1", 0, 0);
    }

    // "TEST: PART { or PART }. PART: FACT { and FACT }."
    static void testsOfPartsOfFacts() {
        ruleFault("strike 1 if 1=1 or", 18, 0);
        ruleFault("strike 1 if 1=1 and", 19, 0);
        ruleFault("strike 1 if or 1=1", 12, 0);
        ruleFault("strike 1 if and 1=1", 12, 0);
        ruleFault("strike 1 if 1=1 or and 1=1", 19, 0);
        ruleFault("strike 1 if 1=1 1=1", 16, 0);
        ruleFault("strike 1 if 1=1 not 1=1", 16, 0);
        ruleFault("strike 1 if 1=1 xor 1=1", 16, 0);
        ruleFault("strike 1 if 1=1 [1=1]", 16, 0);
    }

    // "FACT: not FACT | [ TEST ] (these brackets are signs) | SUM SIGN SUM,"
    static void factsOfThreeKinds() {
        due("all of them", ruleAnswer("strike 1 if not[not 1=1 and[1=1 or[1=2]]]or 1=1"), 0);
        ruleFault("strike 1 if not", 15, 0);
        ruleFault("strike 1 if not or 1=1", 16, 0);
        ruleFault("strike 1 if []", 13, 0);
        ruleFault("strike 1 if [1=1", 16, 0);
        ruleFault("strike 1 if [1=1;strike 1", 16, 0);
        ruleFault("strike 1 if [1=1]]", 17, 0);
        ruleFault("strike 1 if 1=1]", 15, 0);
        ruleFault("strike 1 if [hot]", 16, 0);
        ruleFault("strike 1 if [1]=1", 14, 0);
        ruleFault("strike 1 if hot", 15, 0);
        ruleFault("strike 1 if 1", 13, 0);
        ruleFault("strike 1 if 1 2", 14, 0);
        ruleFault("strike 1 if heat hot", 17, 0);
        ruleFault("strike 1 if 1=[1=1]", 14, 0);
        ruleFault("strike 1 if 1=not 1=1", 14, 0);
    }

    // "SIGN one of < <= = >= >."
    static void signs() {
        for (String sign : new String[] {"<", "<=", "=", ">=", ">"}) {
            due(sign, ruleAnswer("strike 1 if 1" + sign + "1"), 0);
        }
        ruleFault("strike 1 if 1==1", 14, 0);
        ruleFault("strike 1 if 1=<1", 14, 0);
        ruleFault("strike 1 if 1=>1", 14, 0);
        ruleFault("strike 1 if 1<>1", 14, 0);
        ruleFault("strike 1 if 1><1", 14, 0);
        ruleFault("strike 1 if 1!=1", 13, 0);
        ruleFault("strike 1 if 1< =1", 15, 0);
        ruleFault("strike 1 if 1<==1", 15, 0);
        ruleFault("strike 1 if 1=1=1", 15, 0);
        ruleFault("strike 1 if 1<", 14, 0);
    }

    // "SUM: TERM { (+ or -) TERM }. TERM: VALUE { (* or / or %) VALUE }."
    static void sumsOfTerms() {
        for (String sign : new String[] {"+", "-", "*", "/", "%"}) {
            due(sign, ruleAnswer("strike 1" + sign + "1"), 0);
            ruleFault("strike 1" + sign, 9, 0);
            ruleFault("strike 1" + sign + sign + "1", 9, 0);
            ruleFault("strike " + sign + "1", 7, 0);
            ruleFault("strike 1" + sign + ";strike 1", 9, 0);
            ruleFault("strike 1" + sign + " if 1=1", 10, 0);
        }
        ruleFault("strike (1)", 7, 0);
        ruleFault("strike 1&1", 8, 0);
    }

    // "VALUE: NUMBER (1 to 5 digits, as far as digits go on)"
    static void numbersOf1To5Digits() {
        due("1", ruleAnswer("strike 0"), 0);
        due("5", ruleAnswer("strike 99999"), 0);
        due("5, all 0", ruleAnswer("strike 00000"), 0);
        ruleFault("strike 100000", 7, 1);
        ruleFault("strike 000000", 7, 1);
        ruleFault("strike 99999999999999999999", 7, 1);
        ruleFault("strike 1 + 123456 if x", 11, 1);
        ruleFault("strike 12345 6", 13, 0);
        ruleFault("strike .5", 7, 0);
    }

    // "| WORD. WORDS (small letters, as far as these go on)"
    static void wordsAsFarAsLettersGo() {
        String[] words = {"smith", "heat", "hot", "need", "left", "pay", "quick", "moment", "worn", "rivals", "waits",
            "burn", "done"};
        for (String word : words) {
            due(word, ruleAnswer("strike " + word), 0);
            ruleFault("strike " + word + "s", 7, 0);
            ruleFault("strike " + word.substring(0, word.length() - 1), 7, 0);
            ruleFault("strike " + word.toUpperCase(), 7, 0);
            ruleFault("strike " + word + "S", 7 + word.length(), 0);
            ruleFault("strike " + word + "1", 7 + word.length(), 0);
        }
        for (String word : new String[] {"strike", "if", "and", "or", "not", "job", "cool", "h", "hotheat"}) {
            ruleFault("strike " + word, 7, 0);
        }
    }

    // "Blanks (32) stand between as one likes."
    static void blanksAsOneLikes() {
        due("none in a RULE", ruleAnswer("strike1if[hot=1]and not[heat<2or burn>=3];strike2"), 0);
        due("many in a RULE", ruleAnswer("  strike   1  +  2  if  [  hot  =  1  ]  ;  strike  2  "), 0);
        due("none in a SMITHY", smithyAnswer("smithy1 20 1;smith5;job0face1 1 0;part0 1"), 1);
        due("many in a SMITHY", smithyAnswer("  smithy  1  20  1  ;  smith  5  ;  part  0  1  "), 0);
        ruleFault("str ike 1", 0, 0);
        ruleFault("strike\t1", 6, 0);
        ruleFault("strike 1\n", 8, 0);
        ruleFault("strike\0001", 6, 0);
        smithyFault("smithy\t1 20 1", 6, 0);
        smithyFault(PLAIN + "\0", 13, 0);
        smithyFault("smithy 1 2 0 1", 9, 1);
    }

    // "[ and not lie within one another 10 deep at most"; "2 too deep (at the sign that opens, or the word not)"
    static void tenDeep() {
        due("10 [", ruleAnswer("strike 1 if " + times("[", 10) + "1=1" + times("]", 10)), 0);
        due("10 not", ruleAnswer("strike 1 if " + times("not ", 10) + "1=1"), 0);
        due("5 of each", ruleAnswer("strike 1 if " + times("not[", 5) + "1=1" + times("]", 5)), 0);
        ruleFault("strike 1 if " + times("[", 11) + "1=1" + times("]", 11), 22, 2);
        ruleFault("strike 1 if " + times("not ", 11) + "1=1", 52, 2);
        ruleFault("strike 1 if " + times("[not ", 5) + "[1=1]" + times("]", 5), 37, 2);
        ruleFault("strike 1 if " + times("[not ", 5) + "not 1=1" + times("]", 5), 37, 2);
        ruleFault("strike 1 if " + times("[", 200), 22, 2);
        ruleFault("strike 1 if " + times("not ", 97), 52, 2);
        due("one behind another", ruleAnswer("strike 1 if " + times("[1=1]and ", 11) + "not 1=1"), 0);
        String ten = times("[", 10) + "1=1" + times("]", 10);
        due("10 deep, twice", ruleAnswer("strike 1 if " + ten + "or " + ten), 0);
        due("10 deep, in two CLAUSES", ruleAnswer("strike 1 if " + ten + ";strike 1 if " + ten), 0);
        ruleFault("strike 1 if [1=1 and " + ten + "]", 30, 2);
        ruleFault("strike 1 if not 1=1 or " + ten.replace("1=1", "not 1=1"), 33, 2);
    }

    // "at most 60 VALUES (of SUMS) and FACTS made of a SIGN, together."; "3 one VALUE or FACT too many (at its first
    // byte; of a FACT at its SIGN)"
    static void sixtyValuesAndFacts() {
        due("60 VALUES", ruleAnswer("strike 1" + times("+1", 59)), 0);
        ruleFault("strike 1" + times("+1", 60), 8 + 59 * 2 + 1, 3);
        ruleFault("strike 1" + times("+1", 59) + "+ hot", 8 + 59 * 2 + 2, 3);
        due("58 and a VALUE, a SIGN", ruleAnswer("strike 1" + times("+1", 56) + " if 1=1"), 0);
        ruleFault("strike 1" + times("+1", 57) + " if 1=1", 128, 3);
        ruleFault("strike 1" + times("+1", 58) + " if 1 >= 1", 130, 3);
        ruleFault("strike 1" + times("+1", 59) + " if 1=1", 130, 3);
        due("60 in 12 CLAUSES", ruleAnswer(times("strike 1+1+1+1+1;", 11) + "strike 1+1+1+1+1"), 0);
        ruleFault(times("strike 1+1+1+1+1;", 11) + "strike 1+1+1+1+1*2", 11 * 17 + 17, 3);
        String facts = "strike 1+1 if [not 1=1]" + times("and 1=1", 18);
        due("not, [ and and are none: 59", ruleAnswer(facts), 0);
        due("60", ruleAnswer(facts.replace("1+1", "1+1+1")), 0);
        ruleFault(facts.replace("1+1", "1+1+1+1"), facts.length() + 3, 3);
        OneAnvil o = of(PLAIN, "strike 1" + times("+1", 59));
        due("each RULE for itself", rule(o, "strike 1" + times("+1", 59)), 1);
    }

    // ---- Terms: FAULTS

    // "FAULTS, the first along the text,"
    static void theFirstFaultAlongTheText() {
        smithyFault("smithy 0 0 0", 7, 1);
        smithyFault("smithy 1 0 0", 9, 1);
        smithyFault(PLAIN + ";smith 0;job 9;x", 20, 1);
        smithyFault(PLAIN + ";smith 1;x;smithy", 22, 0);
        ruleFault("strike 123456 x", 7, 1);
        ruleFault("strike hots;strike 123456", 7, 0);
        ruleFault("strike 1 if " + times("[", 11) + "x", 22, 2);
        ruleFault("strike 1" + times("+1", 60) + "+x;y", 127, 3);
        ruleFault(times("strike 1;", 12) + "strike x", 108, 4);
    }

    // "1 + 8 * its place": the first byte is at place 0, the first FAULT is 1
    static void placesCountFrom0() {
        due("SMITHY", smithyAnswer("!"), -3);
        due("RULE", ruleAnswer("!"), -3);
        due("place 1", ruleAnswer(" !"), -11);
        due("code 1 at 7", ruleAnswer("strike 123456"), -2 - 58);
        due("code 4 at 0", smithyAnswer("part 0 0"), -7);
    }

    // "0 a byte or WORD that can't stand there, or the end (behind the last byte);": a text that ends early
    static void theEndBehindTheLastByte() {
        String smithy = "smithy 1 20 1;smith 5;job 0 face 3 15 0;part 1 7";
        int[] cuts = {0, 6, 7, 8, 9, 11, 12, 14, 19, 20, 22, 25, 26, 27, 28, 32, 33, 34, 35, 37, 38, 40, 44, 45, 46, 47};
        for (int n : cuts) smithyFault(smithy.substring(0, n), n, 0);
        String rule = "strike 1 + 2 if [hot = 1 and not 1 < 2] or 1 = 1;strike 1";
        int[] more = {0, 6, 7, 10, 11, 15, 16, 17, 20, 21, 22, 23, 24, 28, 29, 32, 33, 34, 35, 36, 37, 38, 42, 43, 44,
            45, 46, 47, 49, 55, 56};
        for (int n : more) ruleFault(rule.substring(0, n), n, 0);
    }

    // "the end (behind the last byte);": of a text of 400 bytes, too
    static void theEndBehindTheLastOf400Bytes() {
        String[] smithies = {"", "smithy", "smithy 1", PLAIN + ";", PLAIN + ";smith", ONE_SMITH + ";job 0 weld"};
        for (String text : smithies) smithyFault(times(" ", 400 - text.length()) + text, 400, 0);
        String[] rules = {"strike", "strike 1+", "strike 1 if", "strike 1 if not", "strike 1 if [", "strike 1 if 1",
            "strike 1 if 1<", "strike 1 if 1>=", "strike 1 if [1=1", "strike 1 if 1=1 or", "strike 1;"};
        for (String text : rules) ruleFault(times(" ", 400 - text.length()) + text, 400, 0);
        due("whole", ruleAnswer(times(" ", 391) + "strike 12"), 0);
        ruleFault(times(" ", 387) + "strike 123456", 394, 1);
        ruleFault(times(" ", 390) + "strike hoo", 397, 0);
    }

    // "0 a .. WORD that can't stand there": also one that would have gone on
    static void aWordThatEndsEarly() {
        smithyFault("smith", 0, 4);
        smithyFault("smit", 0, 0);
        smithyFault(PLAIN + ";smit", 14, 0);
        smithyFault(PLAIN + ";jo", 14, 0);
        smithyFault(ONE_SMITH + ";job 0 fac", 28, 0);
        ruleFault("strik", 0, 0);
        ruleFault("strike ho", 7, 0);
        ruleFault("strike 1 i", 9, 0);
        ruleFault("strike 1 if no", 12, 0);
        ruleFault("strike 1 if 1=1 an", 16, 0);
    }

    // "0 a byte .. that can't stand there": each of the 256 of them
    static void eachByteBehindASmithy() {
        for (int b = 0; b < 256; b++) {
            int got = smithyAnswer(PLAIN + " " + (char) b);
            due("byte " + b, got, b == ' ' ? 0 : b == ';' ? fault(15, 0) : fault(14, 0));
        }
    }

    // "0 a byte .. that can't stand there", in a RULE
    static void eachByteWithinARule() {
        for (int b = 0; b < 256; b++) {
            int want = fault(9, 0);
            if ("+-*/%".indexOf(b) >= 0) want = 0;
            if (b == ' ' || b == ';') want = fault(11, 0);
            due("byte " + b, ruleAnswer("strike 1 " + (char) b + " 1"), want);
        }
    }

    // "1 a NUMBER of more digits, or not as told;"
    static void numbersNotAsTold() {
        smithyFault("smithy 000001 20 1", 7, 1);
        smithyFault("smithy 10 20 1", 7, 1);
        smithyFault("smithy   10 20 1", 9, 1);
        smithyFault(ONE_SMITH + ";job  1face 1 1 0", 27, 1);
        ruleFault("strike hot-  123456", 13, 1);
    }

    // "Of one place the least."
    static void ofOnePlaceTheLeast() {
        ruleFault("strike 1" + times("+1", 59) + "+123456", 127, 1);
        ruleFault("strike 1" + times("+1", 59) + "+x", 127, 0);
        ruleFault("strike 1" + times("+1", 59) + "+", 127, 0);
        ruleFault("strike 1" + times("+1", 58) + " if 1 x", 130, 0);
        ruleFault(times("strike 1;", 12) + "strikes", 108, 0);
        ruleFault(times("strike 1;", 12) + "1", 108, 0);
        ruleFault(times("strike 1;", 12), 108, 0);
        ruleFault("strike 1 if " + times("[", 10) + "nota", 22, 0);
        ruleFault("strike 1 if " + times("[", 10) + "(", 22, 0);
        smithyFault(PLAIN + times(";part 0 1", 39) + ";parts", 13 + 39 * 9 + 1, 0);
        smithyFault(PLAIN + times(";part 0 1", 39) + ";", 13 + 39 * 9 + 1, 0);
        smithyFault(PLAIN + times(";smith 5", 3) + ";smiths", 38, 0);
        smithyFault("smiths", 0, 0);
    }

    // ---- Terms: what a RULE wills

    /** Whether a SMITH strikes in the next MOMENT, if RULE 0 is "strike 1 if TEST". */
    private static boolean strikes(String smithy, int moments, int smith, String test) {
        OneAnvil o = of(smithy, "strike 1 if " + test);
        go(o, moments);
        o.force(0);
        int before = o.smith(smith, 0);
        o.moment();
        return o.smith(smith, 0) <= before && o.smith(smith, 6) == 0;
    }

    /** After some MOMENTS without a RULE a WORD is so much, not 1 more and not 1 less. */
    private static void word(String smithy, int moments, int smith, String word, int want) {
        for (int k = Math.max(0, want - 1); k <= want + 1; k++) {
            boolean holds = strikes(smithy, moments, smith, word + " = " + k);
            due(word + " = " + k, holds ? 1 : 0, k == want ? 1 : 0);
        }
    }

    private static final String TRIO = "smithy 2 30 50;smith 10;smith 8;smith 15;job 0 face 3 20 5;job 1 weld 1 8 50;"
        + "job 2 heel 2 15 0;part 0 3;part 1 4";

    // "WORDS .. of a SMITH who has a JOB: smith, heat,"
    static void wordsSmithAndHeat() {
        for (int k = 0; k < 3; k++) word(TRIO, 0, k, "smith", k);
        word(TRIO, 0, 1, "heat", 0);
        word(TRIO, 1, 1, "heat", 8);
    }

    // "hot (1 if HOT, else 0),"
    static void wordHot() {
        word(TRIO, 1, 0, "hot", 0);
        word(TRIO, 1, 1, "hot", 1);
        word(TRIO, 1, 2, "hot", 1);
    }

    // "need (HEAT of the JOB), left (BLOWS to go), pay, quick,"
    static void wordsOfTheJob() {
        word(TRIO, 0, 0, "need", 20);
        word(TRIO, 0, 0, "left", 3);
        word(TRIO, 2, 2, "left", 1);
        word(TRIO, 0, 1, "pay", 50);
        word(TRIO, 0, 2, "pay", 0);
        word(TRIO, 0, 2, "quick", 15);
    }

    // "moment,"
    static void wordMoment() {
        word(TRIO, 0, 0, "moment", 0);
        word(TRIO, 1, 0, "moment", 1);
    }

    // "worn (of the part of the JOB, of a weld the more of both),"
    static void wordWorn() {
        word(TRIO, 0, 0, "worn", 3);
        word(TRIO, 0, 1, "worn", 4);
        word(TRIO, 0, 2, "worn", 0);
        word(TRIO + ";part 0 7;part 2 9", 0, 1, "worn", 7);
        word(TRIO + ";part 0 7;part 2 9", 0, 2, "worn", 9);
        word(ONE_SMITH + ";job 0 beak 1 1 0;part 0 5;part 1 6;part 2 7", 0, 0, "worn", 6);
    }

    // "rivals (others whose JOB needs a part of this one),"
    static void wordRivals() {
        word(TRIO, 0, 0, "rivals", 1);
        word(TRIO, 0, 1, "rivals", 1);
        word(TRIO, 0, 2, "rivals", 0);
        String three = PLAIN + times(";smith 5", 3);
        word(three + ";job 0 weld 1 1 0;job 1 face 1 1 0;job 2 beak 1 1 0", 0, 0, "rivals", 2);
        word(three + ";job 0 weld 1 1 0;job 1 face 1 1 0;job 2 beak 1 1 0", 0, 1, "rivals", 1);
        word(three + ";job 0 weld 1 1 0;job 1 heel 1 1 0", 0, 0, "rivals", 0);
        word(three + ";job 0 weld 1 1 0;job 1 weld 1 1 0;job 2 weld 1 1 0", 0, 2, "rivals", 2);
        word(three + ";job 1 heel 1 1 0;job 2 heel 1 1 0;job 0 face 1 1 0;job 0 heel 1 1 0", 0, 1, "rivals", 1);
    }

    // "others whose JOB needs": one that is done is none
    static void wordRivalsOfDoneJobs() {
        String two = "smithy 1 20 9;smith 5;smith 1;job 0 face 1 1 0;job 1 face 1 9 0";
        word(two, 1, 1, "rivals", 1);
        word(two, 2, 1, "rivals", 0);
    }

    // "waits (MOMENTS they have waited on end),"
    static void wordWaits() {
        String two = "smithy 1 90 99;smith 10;smith 10;job 0 face 9 10 0;job 1 face 9 10 0";
        word(two, 1, 1, "waits", 0);
        word(two, 2, 1, "waits", 1);
        word(two, 2, 0, "waits", 0);
        word(two, 3, 1, "waits", 0);
    }

    // "burn (BURN less HEAT),"
    static void wordBurn() {
        word(TRIO, 0, 0, "burn", 30);
        word(TRIO, 1, 1, "burn", 22);
        word("smithy 1 20 9;smith 20;job 0 face 1 50 0", 1, 0, "burn", 0);
    }

    // "done (JOBS they have done)."
    static void wordDone() {
        String two = "smithy 1 20 9;smith 5;job 0 face 1 1 0;job 0 face 1 1 0;job 0 face 1 1 0";
        word(two, 1, 0, "done", 0);
        word(two, 2, 0, "done", 1);
        word(two, 4, 0, "done", 2);
    }

    /** Whether a SUM is above 0, on a SMITHY in which the WORD hot is 0. */
    private static void sum(String sum, boolean above) {
        OneAnvil o = by(ONE_SMITH + ";job 0 face 1 1 0", "strike " + sum);
        o.moment();
        due(sum, o.smith(0, 8), above ? 1 : 0);
    }

    // "/ is towards 0,"
    static void divisionIsTowards0() {
        sum("7/8", false);
        sum("8/8", true);
        sum("15/8-1", false);
        // 3 * 2^62 goes round to -2^62, which 3 doesn't divide.
        sum("65536*65536*65536*49152/3*3-65536*65536*65536*49152", true);
        sum("20/3/2-2", true);
    }

    // "% its rest,"
    static void restOfADivision() {
        sum("7%7", false);
        sum("6%7-5", true);
        sum("6%7-6", false);
        sum("65536*65536*65536*49152%3+1", false);
        sum("65536*65536*65536*49152%3+2", true);
    }

    // "both 0 by 0;"
    static void divisionBy0() {
        sum("7/0", false);
        sum("7%0", false);
        sum("7/0+1", true);
        sum("7%0+1", true);
        sum("0/0", false);
        sum("0%0", false);
        sum("7/hot", false);
        sum("7%hot", false);
        sum("1-7/hot", true);
        sum("1-7%hot", true);
    }

    // "all goes round in 64 bits."
    static void allGoesRoundIn64Bits() {
        sum("65536*65536*65536*32767", true);
        sum("65536*65536*65536*32768", false);
        sum("65536*65536*65536*32768-1", true);
        sum("65536*65536*65536*65536", false);
        sum("65536*65536*65536*65536+1", true);
        sum("65536*65536*65536*32767+65536*65536*65536", false);
        sum("65536*65536*2", true);
        sum("50000*50000", true);
        sum("65536*65536*65536*32768/1", false);
    }

    // "SUM: TERM { (+ or -) TERM }": from left to right, TERMS ahead of SUMS
    static void sumsFromLeftToRight() {
        sum("10-3-7", false);
        sum("10-3-6", true);
        sum("2+3*4-14", false);
        sum("2+3*4-13", true);
        sum("3*5%4-2", true);
        sum("3*5%4-3", false);
        sum("0-1", false);
        sum("0", false);
        sum("1", true);
    }

    /** Whether a TEST holds. */
    private static void test(String test, boolean holds) {
        OneAnvil o = by(ONE_SMITH + ";job 0 face 1 1 0", "strike 1 if " + test);
        o.moment();
        due(test, o.smith(0, 8), holds ? 1 : 0);
    }

    // "SUM SIGN SUM, SIGN one of < <= = >= >.": at, below and above
    static void factsAtTheirEdges() {
        test("1<1", false);
        test("1<2", true);
        test("1<=1", true);
        test("2<=1", false);
        test("1=1", true);
        test("1=2", false);
        test("2=1", false);
        test("1>=1", true);
        test("1>=2", false);
        test("1>1", false);
        test("2>1", true);
        test("1<2 and 1<=2 and 2=2 and 2>=1 and 2>1", true);
        test("not 1<2 or not 1<=2 or not 2=2 or not 2>=1 or not 2>1", false);
        test("0-1<0", true);
        test("65536*65536*65536*32768<0", true);
        test("65536*65536+1=1", false);
        test("65536*65536*65536*65536+1=1", true);
    }

    // "TEST: PART { or PART }. PART: FACT { and FACT }.": and ahead of or, not of one FACT alone
    static void testsAtTheirEdges() {
        test("1=1 or 1=2 and 1=2", true);
        test("1=2 and 1=2 or 1=1", true);
        test("[1=1 or 1=2] and 1=2", false);
        test("1=2 or 1=2 or 1=1", true);
        test("1=2 or 1=2", false);
        test("1=1 and 1=1 and 1=2", false);
        test("not 1=1 or 1=1", true);
        test("not [1=1 or 1=1]", false);
        test("not 1=2 and 1=2", false);
        test("not not 1=1", true);
        test("not not not 1=1", false);
        test("1=2 and [1=1 or 1=1]", false);
    }
}
