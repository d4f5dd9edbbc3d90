/**
 * The edges of part III as far as ORDER, promises 15 to 23. Ahead of each test stands the sentence of
 * ../shared/DOC.md that it holds.
 */
public final class EdgesOfForesight extends Bench {
    /** By "strike 0" HEAT is 0 at even MOMENTS, 20 at odd ones; one strikes HOT at odd ones alone. */
    private static final String BURNER = "smithy 1 20 999;smith 20;job 0 face 5 20 0";
    private static final String BURNER_OF_ONE_BLOW = "smithy 9 20 999;smith 20;job 0 face 1 20 0";
    private static final String TWO_ON_FACE = "smithy 1 30 99;smith 10;smith 10;job 0 face 2 10 0;job 1 face 2 10 0";
    /** Of its MOMENTS 0 to 7: BLOWS 0 0 2 2 1 1 2 0; all is done at 7; the beak splits in 6. */
    private static final String THREE = "smithy 2 30 6;smith 10;smith 8;smith 15;job 0 face 3 15 5;"
        + "job 1 beak 2 12 7;job 2 weld 2 20 9;job 0 heel 1 5 3;part 1 2";
    private static final String SIX_JOBS = "smithy 1 60 99;smith 20" + times(";job 0 face 1 10 0", 6);

    public static void main(String[] args) {
        runAll(EdgesOfForesight.class);
    }

    private static int[] rota(OneAnvil o, int n) {
        int[] row = new int[n + 1];
        for (int k = 0; k <= n; k++) row[k] = o.rota(n, k);
        return row;
    }

    private static int[] round(OneAnvil o) {
        return new int[] {o.round(0), o.round(1), o.round(2), o.round(3)};
    }

    private static int[] beside(OneAnvil o) {
        return new int[] {o.beside(0), o.beside(1), o.beside(2), o.beside(3), o.beside(4)};
    }

    private static int[] order(OneAnvil o, int smith) {
        int[] row = new int[6];
        for (int k = 0; k < 6; k++) row[k] = o.order(smith, k);
        return row;
    }

    // ---- III: (By what is asked nothing changes; MOMENTS go on by the RULE IN FORCE.)

    private static String asked(OneAnvil o) {
        int[] answers = {o.ahead(0, 9, 0), o.ahead(2, 9, 1), o.ready(2), o.all(), o.rota(3, 0), o.round(1), o.beside(1),
            o.worth(0, 20), o.splits(1, 1), o.order(0, 1), o.ruled(0), o.look(3, 1), o.second(), o.days(2, 9, 30, 0),
            o.days(1, 9, 100, 1), o.rota(2, 1), o.worth(1, 9), o.second()};
        return java.util.Arrays.toString(answers);
    }

    // "(By what is asked nothing changes;"
    static void askingChangesNothing() {
        OneAnvil o = of(THREE, "strike hot*rivals", "strike 0");
        OneAnvil silent = of(THREE, "strike hot*rivals", "strike 0");
        for (int k = 0; k < 8; k++) {
            String first = asked(o);
            due("asked again at " + k, asked(o).equals(first) ? 1 : 0, 1);
            due("MOMENT " + k, o.moment(), silent.moment());
        }
        due("all stands as without asking", seen(o).equals(seen(silent)) ? 1 : 0, 1);
        o.undo();
        silent.undo();
        due("UNDO, too", o.smith(2, 0), silent.smith(2, 0));
    }

    // "(By what is asked nothing changes;": not even what can be UNDONE, x, NOTES or the TAPE
    static void askingLeavesAllAsItIs() {
        OneAnvil o = by(THREE, "strike hot", "strike 0");
        go(o, 3);
        o.note(0, 1, 2);
        o.seed(99);
        o.feed(1, 2, 3, 4, 5);
        String before = seen(o);
        asked(o);
        due("as it was", seen(o).equals(before) ? 1 : 0, 1);
    }

    private static int ask(OneAnvil o, int which) {
        switch (which) {
            case 0: return o.ahead(2, 5, 0);
            case 1: return o.ready(2);
            case 2: return o.all();
            case 3: return o.rota(2, 0);
            case 4: return o.round(0);
            case 5: return o.round(1);
            case 6: return o.beside(1);
            case 7: return o.worth(0, 5);
            case 8: return o.splits(1, 0);
            case 9: return o.order(0, 0);
            case 10: return o.ruled(0);
            case 11: return o.look(3, 1);
            case 12: return o.second();
            case 13: return o.days(1, 7, 100, 0);
            case 14: return o.days(2, 7, 30, 0);
            default: return o.moment();
        }
    }

    // "(By what is asked nothing changes;": what is asked behind something else, and a MOMENT, are as without it
    static void askingOneThingBehindAnother() {
        for (int second = 0; second < 16; second++) {
            OneAnvil alone = of(THREE, "strike hot", "strike 0");
            go(alone, 2);
            int want = ask(alone, second);
            for (int first = 0; first < 15; first++) {
                OneAnvil o = of(THREE, "strike hot", "strike 0");
                go(o, 2);
                ask(o, first);
                due(second + " behind " + first, ask(o, second), want);
            }
        }
    }

    // "MOMENTS go on by the RULE IN FORCE.)": AHEAD, READY, ALL, WORTH, SPLITS, ORDER, DAYS
    static void askingGoesByTheRuleInForce() {
        OneAnvil o = of(THREE, "strike 0", "strike 1");
        int[][] want = {{18, 5, 7, 1, 6, 7, 8}, {30, -2, -2, 0, -2, -2, 0}, {0, -2, -2, 0, 3, -2, 0}};
        for (int rule = -1; rule < 2; rule++) {
            o.force(rule);
            int[] got = {o.ahead(0, 3, 0), o.ready(0), o.all(), o.worth(0, 5), o.splits(1, 0), o.order(0, 0),
                o.days(1, 7, 0, 0)};
            dueRow("by RULE " + rule, got, want[rule + 1]);
        }
    }

    // "MOMENTS go on by the RULE IN FORCE.)": ROUND, SECOND; not so ROTA
    static void askingTheRestByTheRuleInForce() {
        OneAnvil o = of(TWO_ON_FACE, "strike 0", "strike hot");
        int[] rounds = {11, 4, 11};
        int[] seconds = {2, 0, 2};
        for (int rule = -1; rule < 2; rule++) {
            o.force(rule);
            due("ROUND by " + rule, o.round(0), rounds[rule + 1]);
            due("SECOND by " + rule, o.second(), seconds[rule + 1]);
            due("ROTA by " + rule, o.rota(3, 0), 2);
        }
    }

    // ---- Promise 15: ahead

    // "AHEAD n MOMENTS (0 to 200)": now, and as far as may be
    static void aheadFrom0To200() {
        OneAnvil o = by(BURNER, "strike moment/199");
        dueRow("0", new int[] {o.ahead(0, 0, 0), o.ahead(0, 0, 1), o.ahead(0, 0, 2)}, 0, 5, 0);
        dueRow("199", new int[] {o.ahead(0, 199, 0), o.ahead(0, 199, 1)}, 20, 5);
        dueRow("200", new int[] {o.ahead(0, 200, 0), o.ahead(0, 200, 1)}, 19, 4);
        go(o, 2);
        dueRow("from 2 on", new int[] {o.ahead(0, 197, 0), o.ahead(0, 198, 0), o.ahead(0, 198, 1)}, 20, 19, 4);
    }

    // "HEAT, BLOWS to go of the JOB then (0: none), JOBS done of a SMITH."
    static void aheadTellsOfTheJobThen() {
        OneAnvil o = of("smithy 2 30 99;smith 10;smith 9;job 0 face 1 10 0;job 0 beak 7 10 0");
        dueRow("the first", new int[] {o.ahead(0, 1, 0), o.ahead(0, 1, 1), o.ahead(0, 1, 2)}, 10, 1, 0);
        dueRow("the second", new int[] {o.ahead(0, 2, 0), o.ahead(0, 2, 1), o.ahead(0, 2, 2)}, 0, 7, 1);
        dueRow("none", new int[] {o.ahead(0, 40, 0), o.ahead(0, 40, 1), o.ahead(0, 40, 2)}, 0, 0, 2);
        dueRow("none at all", new int[] {o.ahead(1, 0, 0), o.ahead(1, 200, 1), o.ahead(1, 9, 2)}, 0, 0, 0);
    }

    // "NONE without these."
    static void aheadWithoutThese() {
        OneAnvil o = of(BURNER);
        refused(o, -1, () -> o.ahead(0, 201, 0), () -> o.ahead(0, -1, 0), () -> o.ahead(0, FAR_ABOVE, 0),
            () -> o.ahead(0, FAR_BELOW, 0), () -> o.ahead(1, 1, 0), () -> o.ahead(-1, 1, 0), () -> o.ahead(3, 1, 0),
            () -> o.ahead(FAR_ABOVE, 1, 0), () -> o.ahead(0, 1, 3), () -> o.ahead(0, 1, -1),
            () -> o.ahead(0, 1, FAR_ABOVE), () -> o.ahead(0, 0, FAR_BELOW));
        OneAnvil none = new OneAnvil();
        refused(none, -1, () -> none.ahead(0, 0, 0));
    }

    // ---- Promise 16: ready

    // "READY: the MOMENT at whose begin a JOB is done first"
    static void readyAtWhoseBegin() {
        OneAnvil o = of(THREE);
        dueRow("JOBS", new int[] {o.ready(0), o.ready(1), o.ready(2), o.ready(3)}, 5, 4, 7, 7);
        go(o, 1);
        dueRow("from 1 on", new int[] {o.ready(0), o.ready(1), o.ready(2), o.ready(3)}, 5, 4, 7, 7);
    }

    // "(done already: the one it was),"
    static void readyAlready() {
        OneAnvil o = of(THREE, "strike 0");
        go(o, 6);
        o.force(0);
        dueRow("JOBS", new int[] {o.ready(0), o.ready(1), o.ready(2), o.ready(3)}, 5, 4, -2, -2);
    }

    // "in 500 MOMENTS."; "-2: not in these;"
    static void readyIn500Moments() {
        OneAnvil o = by(BURNER_OF_ONE_BLOW, "strike moment/499");
        due("in the 500th", o.ready(0), 500);
        OneAnvil p = by(BURNER_OF_ONE_BLOW, "strike moment/501");
        due("in the 502nd", p.ready(0), -2);
        go(p, 1);
        due("in the 501st", p.ready(0), -2);
        go(p, 1);
        due("in the 500th from 2 on", p.ready(0), 502);
        OneAnvil q = by(BURNER_OF_ONE_BLOW, "strike 0");
        due("never", q.ready(0), -2);
    }

    // "NONE without that JOB."
    static void readyWithoutThatJob() {
        OneAnvil o = of(THREE);
        refused(o, -1, () -> o.ready(4), () -> o.ready(8), () -> o.ready(-1), () -> o.ready(FAR_ABOVE),
            () -> o.ready(FAR_BELOW));
        OneAnvil none = new OneAnvil();
        refused(none, -1, () -> none.ready(0));
    }

    // ---- Promise 17: all

    // "ALL: that at whose begin all are."; "(done already: MOMENT)"
    static void allAlready() {
        OneAnvil o = of(THREE, "strike 0");
        due("then", o.all(), 7);
        go(o, 6);
        due("one MOMENT more", o.all(), 7);
        go(o, 1);
        due("now", o.all(), 7);
        go(o, 3);
        due("MOMENT, not the one it was", o.all(), 10);
        o.force(0);
        due("whatever the RULE", o.all(), 10);
        OneAnvil p = of("smithy 1 20 9;smith 1");
        go(p, 3);
        due("without JOBS", p.all(), 3);
    }

    // "-2: not in 500 MOMENTS;"
    static void allIn500Moments() {
        OneAnvil o = by(BURNER_OF_ONE_BLOW, "strike moment/499");
        due("in the 500th", o.all(), 500);
        OneAnvil p = by(BURNER_OF_ONE_BLOW, "strike moment/501");
        due("in the 502nd", p.all(), -2);
        go(p, 1);
        due("in the 501st", p.all(), -2);
        go(p, 1);
        due("in the 500th from 2 on", p.all(), 502);
        OneAnvil q = of(BURNER_OF_ONE_BLOW + ";smith 1;job 1 heel 1 50 0");
        due("one is never", q.all(), -2);
    }

    // "NONE without a SMITHY."
    static void allWithoutASmithy() {
        OneAnvil none = new OneAnvil();
        refused(none, -1, () -> none.all());
    }

    // ---- Promise 18: rota

    // "ROTA for n MOMENTS (1 to 4)": as few and as many
    static void rotaFrom1To4Moments() {
        OneAnvil o = of("smithy 1 30 99;smith 10;job 0 face 9 10 0");
        dueRow("1", rota(o, 1), 0, 0);
        dueRow("2", rota(o, 2), 1, 0, 1);
        dueRow("4: two heatings, for two BLOWS", rota(o, 4), 2, 0, 0, 1, 1);
        go(o, 1);
        dueRow("1, HOT", rota(o, 1), 1, 1);
    }

    // "who wills to STRIKE (a set of SMITHS; the others HEAT;"
    static void rotaOfSets() {
        OneAnvil o = of("smithy 1 30 99;smith 10;smith 9;smith 8;job 0 face 9 5 0;job 1 beak 9 5 0;job 2 heel 9 5 0");
        go(o, 1);
        dueRow("all three", rota(o, 1), 3, 7);
        dueRow("all for ever", rota(o, 4), 12, 7, 7, 7, 7);
        o.quench(1);
        dueRow("who is cold heats", rota(o, 2), 5, 5, 7);
    }

    // "who has no JOB is of none)"
    static void rotaWithoutAJob() {
        OneAnvil o = of("smithy 1 20 99;smith 1;smith 10;job 1 face 1 5 0");
        due("HEAT at first", o.rota(2, 1), 0);
        go(o, 1);
        dueRow("once it is done, none", rota(o, 3), 1, 0, 2, 0);
        OneAnvil p = of("smithy 1 20 99;smith 1");
        dueRow("none at all", rota(p, 4), 0, 0, 0, 0, 0);
        dueRow("no SMITHS", rota(of("smithy 1 20 99"), 4), 0, 0, 0, 0, 0);
    }

    // "so that most BLOWS are done in them, together (BURNT ones are not taken off);"
    static void rotaCountsBurntBlows() {
        OneAnvil o = of("smithy 9 20 99;smith 20;job 0 face 9 20 0");
        go(o, 1);
        dueRow("BURNT between", rota(o, 4), 2, 1, 0, 0, 1);
    }

    // "of several the first row (of sets as numbers): how many, the row."
    static void rotaTheFirstRow() {
        OneAnvil o = of("smithy 1 20 99;smith 18;smith 1;job 0 face 9 17 0;job 1 face 9 1 0");
        go(o, 1);
        dueRow("one face", rota(o, 4), 4, 1, 1, 2, 2);
        OneAnvil p = of("smithy 1 90 99;smith 20;smith 20;job 0 face 9 10 0;job 1 face 9 10 0");
        go(p, 1);
        dueRow("SMITH 0 is 1, SMITH 1 is 2", rota(p, 2), 2, 1, 1);
        OneAnvil q = of("smithy 1 90 99;smith 20;job 0 face 2 10 0");
        go(q, 1);
        dueRow("as late as may be", rota(q, 4), 2, 0, 0, 1, 1);
    }

    // "ROTA what 0: how many BLOWS, 1 to 4: the set of that MOMENT (-2: so many there are not)."
    static void rotaBeyondItsMoments() {
        OneAnvil o = of(THREE);
        refused(o, -2, () -> o.rota(1, 2), () -> o.rota(1, 4), () -> o.rota(2, 3), () -> o.rota(3, 4));
        due("the last one", o.rota(4, 4) >= 0 ? 1 : 0, 1);
    }

    // "NONE without these, or a SMITHY."
    static void rotaWithoutThese() {
        OneAnvil o = of(THREE);
        refused(o, -1, () -> o.rota(0, 0), () -> o.rota(5, 0), () -> o.rota(-1, 0), () -> o.rota(FAR_ABOVE, 0),
            () -> o.rota(FAR_BELOW, 0), () -> o.rota(1, 5), () -> o.rota(4, 5), () -> o.rota(1, -1),
            () -> o.rota(4, FAR_ABOVE), () -> o.rota(4, FAR_BELOW), () -> o.rota(0, 1), () -> o.rota(5, 5));
        OneAnvil none = new OneAnvil();
        refused(none, -1, () -> none.rota(1, 0), () -> none.rota(1, 2));
    }

    // ---- Promise 19: round

    /** Strikes at HEATS 19 to 10, heats at 9: 11 MOMENTS, 10 BLOWS; by heating alone 10 20 0: 3 MOMENTS. */
    private static final String WHEEL = "smithy 1 20 99;smith 10;job 0 face 9 10 0";

    // "HEATS come again after so many MOMENTS (the least number, in the end), in which so many BLOWS of each are done."
    static void roundInTheEnd() {
        dueRow("0 and 10 never come again", round(of(WHEEL)), 11, 10, -2, -2);
        OneAnvil o = by("smithy 2 99 99;smith 10;job 0 face 9 15 0", "strike 1 if heat<5 or heat>=50");
        dueRow("HEAT 0 for ever, no cold BLOWS", round(o), 1, 0, -2, -2);
        OneAnvil p = by("smithy 1 20 9;smith 20;smith 5;smith 10;job 0 face 1 50 0;job 1 face 1 50 0;job 2 face 1 50 0", "strike 0");
        dueRow("2, 5 and 3 MOMENTS together", round(p), 30, 0, 0, 0);
        go(p, 17);
        dueRow("from wherever", round(p), 30, 0, 0, 0);
        OneAnvil q = by(BURNER, "strike 0");
        go(q, 1);
        dueRow("20 and 0", round(q), 2, 0, -2, -2);
        OneAnvil r = by("smithy 9 99 99;smith 11;job 0 face 9 50 0", "strike 1 if heat=99");
        dueRow("9 heatings, a BLOW at 99, BURNT from 90", round(r), 11, 1, -2, -2);
    }

    // "if each had their JOB for ever (BLOWS without end,"
    static void roundOfBlowsWithoutEnd() {
        OneAnvil o = of("smithy 1 20 99;smith 10;smith 10;job 0 face 1 10 0;job 0 heel 1 1 0;job 1 beak 30 10 0");
        dueRow("1 BLOW and 30", round(o), 11, 10, 10, -2);
        dueRow("who has no JOB", round(of(WHEEL + ";smith 3")), 11, 10, 0, -2);
        dueRow("no SMITHS", round(of("smithy 1 20 9")), 1, -2, -2, -2);
    }

    // "parts worn as now for ever)"
    static void roundOfPartsAsNow() {
        OneAnvil o = of("smithy 1 20 1;smith 10;job 0 face 9 10 0");
        dueRow("not SPLIT now", round(o), 11, 10, -2, -2);
        go(o, 2);
        dueRow("SPLIT now", round(o), 11, 0, -2, -2);
        OneAnvil p = of("smithy 1 20 5;smith 10;smith 10;job 0 weld 9 10 0;job 1 face 9 10 0;part 1 5");
        dueRow("a weld waits, the face is free", round(p), 11, 0, 10, -2);
    }

    // "(RULES: WORDS left, worn, done, waits, moment as they are now.)"
    static void roundOfWordsAsNow() {
        String[] words = {"left=9", "worn=0", "moment=1"};
        for (String word : words) {
            OneAnvil o = of(WHEEL, "strike hot if " + word);
            go(o, 1);
            o.force(0);
            dueRow(word, round(o), 11, 10, -2, -2);
            go(o, 1);
            dueRow(word + " no more", round(o), 3, 0, -2, -2);
        }
        OneAnvil p = by(WHEEL + ";part 0 99", "strike hot if waits=0");
        dueRow("waits=0", round(p), 11, 0, -2, -2);
        go(p, 2);
        dueRow("waits=1", round(p), 3, 0, -2, -2);
        OneAnvil q = by("smithy 1 20 99;smith 10;job 0 face 1 10 0;job 0 face 1 10 0", "strike hot if done=0");
        dueRow("done=0", round(q), 11, 10, -2, -2);
        go(q, 2);
        dueRow("done=1", round(q), 3, 0, -2, -2);
    }

    // "ROUND what 0: MOMENTS, 1 to 3: BLOWS of the SMITH less 1 (-2: there is none such)."
    static void roundOfNoSuchSmith() {
        OneAnvil o = of(TWO_ON_FACE);
        refused(o, -2, () -> o.round(3));
        OneAnvil p = of(THREE);
        due("of SMITH 2", p.round(3) >= 0 ? 1 : 0, 1);
        OneAnvil q = of("smithy 1 20 9");
        refused(q, -2, () -> q.round(1), () -> q.round(2), () -> q.round(3));
    }

    // "NONE for others, or without a SMITHY."
    static void roundForOthers() {
        OneAnvil o = of(TWO_ON_FACE);
        refused(o, -1, () -> o.round(4), () -> o.round(-1), () -> o.round(FAR_ABOVE), () -> o.round(FAR_BELOW));
        OneAnvil none = new OneAnvil();
        refused(none, -1, () -> none.round(0), () -> none.round(1), () -> none.round(4));
    }

    // ---- Promise 20: beside

    // "for each SMITH one of their JOBS that are not done, or none (NONE), so that no part is needed twice"
    static void besideNoPartTwice() {
        String three = "smithy 1 20 9;smith 1;smith 1;smith 1;";
        dueRow("all three", beside(of(three + "job 0 heel 1 1 50;job 1 beak 1 1 50;job 2 face 1 1 50")), 3, 150, 0, 1, 2);
        dueRow("a weld and the heel", beside(of(three + "job 0 weld 1 1 9;job 1 heel 1 1 0;job 2 weld 1 1 8")), 2, 9, 0, 1, -1);
        dueRow("one heel", beside(of(three + "job 0 heel 1 1 1;job 1 heel 1 1 3;job 2 heel 1 1 2")), 1, 3, -1, 1, -1);
        dueRow("a weld needs the beak, too", beside(of(three + "job 0 beak 1 1 1;job 1 weld 1 1 2")), 1, 2, -1, 1, -1);
        dueRow("not the first of theirs",
            beside(of(three + "job 0 face 1 1 1;job 1 face 1 1 1;job 1 beak 1 1 1")), 2, 2, 0, 2, -1);
    }

    // "JOBS that are not done"
    static void besideOfDoneJobs() {
        OneAnvil o = of("smithy 1 20 9;smith 5;smith 5;job 0 face 1 5 9;job 0 heel 2 5 1;job 1 beak 1 5 5");
        dueRow("at first", beside(o), 2, 14, 0, 2, -2);
        go(o, 2);
        dueRow("two are done", beside(o), 1, 1, 1, -1, -2);
        go(o, 9);
        dueRow("all are done", beside(o), 0, 0, -1, -1, -2);
        dueRow("no SMITHS", beside(of("smithy 1 20 9")), 0, 0, -2, -2, -2);
    }

    // "most JOBS, of several most PAY together,"
    static void besideMostJobsThenPay() {
        String two = "smithy 1 20 9;smith 1;smith 1;";
        dueRow("JOBS ahead of PAY", beside(of(two + "job 0 weld 1 1 50;job 0 face 1 1 0;job 1 beak 1 1 0")), 2, 0, 1, 2, -2);
        dueRow("PAY", beside(of(two + "job 0 face 1 1 1;job 0 heel 1 1 2;job 1 beak 1 1 0;job 1 face 1 1 1")), 2, 3, 1, 3, -2);
    }

    // "of several the first (by SMITHS; none ahead of JOB 0)."
    static void besideTheFirst() {
        String two = "smithy 1 20 9;smith 1;smith 1;";
        dueRow("none ahead of JOB 0", beside(of(two + "job 0 face 1 1 3;job 1 face 1 1 3")), 1, 3, -1, 1, -2);
        dueRow("none ahead of JOB 1", beside(of(two + "job 1 face 1 1 3;job 0 face 1 1 3")), 1, 3, -1, 0, -2);
        dueRow("JOB 0 ahead of 1", beside(of(two + "job 0 face 1 1 3;job 0 heel 1 1 3;job 1 beak 1 1 3")), 2, 6, 0, 2, -2);
    }

    // "BESIDE what 0: how many, 1: PAY, 2 to 4: the JOB of the SMITH less 2 (NONE: none; -2: there is no such SMITH)."
    static void besideOfNoSuchSmith() {
        OneAnvil o = of(TWO_ON_FACE);
        refused(o, -2, () -> o.beside(4));
        due("none of SMITH 0", o.beside(2), -1);
        due("SMITH 2 of three", of(THREE).beside(4), -1);
    }

    // "-3 for others, or without a SMITHY."
    static void besideForOthers() {
        OneAnvil o = of(TWO_ON_FACE);
        refused(o, -3, () -> o.beside(5), () -> o.beside(-1), () -> o.beside(FAR_ABOVE), () -> o.beside(FAR_BELOW));
        OneAnvil none = new OneAnvil();
        refused(none, -3, () -> none.beside(0), () -> none.beside(2), () -> none.beside(5));
    }

    // ---- Promise 21: worth

    // "WORTH of a SMITH for n MOMENTS (1 to 60)": as few and as many
    static void worthFrom1To60Moments() {
        OneAnvil o = by("smithy 1 20 99;smith 20;smith 20;job 0 face 9 20 0;job 1 face 9 20 0", "strike moment/59");
        dueRow("the 60th MOMENT", new int[] {o.worth(0, 59), o.worth(0, 60), o.worth(1, 60)}, 0, 1, 0);
        OneAnvil p = of(TWO_ON_FACE);
        go(p, 1);
        dueRow("the first", new int[] {p.worth(0, 1), p.worth(1, 1)}, 1, 0);
    }

    // "by how much more BLOWS of the others are done in these without that one."
    static void worthMayBeLess() {
        OneAnvil o = of(TWO_ON_FACE, "strike hot*rivals", "strike hot");
        o.force(0);
        due("they strike beside a rival alone", o.worth(1, 4), -2);
        o.force(1);
        due("own BLOWS don't count", o.worth(0, 4), 2);
        due("who gives way", o.worth(1, 4), 0);
        due("who has no JOB", of(TWO_ON_FACE + ";smith 1").worth(2, 60), 0);
        due("alone", of("smithy 1 30 99;smith 10;job 0 face 2 10 0").worth(0, 60), 0);
    }

    // "-100000 without these."
    static void worthWithoutThese() {
        OneAnvil o = of(TWO_ON_FACE);
        refused(o, -100000, () -> o.worth(0, 0), () -> o.worth(0, 61), () -> o.worth(0, -1), () -> o.worth(0, FAR_ABOVE),
            () -> o.worth(0, FAR_BELOW), () -> o.worth(2, 1), () -> o.worth(3, 1), () -> o.worth(-1, 1),
            () -> o.worth(FAR_ABOVE, 1), () -> o.worth(FAR_BELOW, 1));
        OneAnvil none = new OneAnvil();
        refused(none, -100000, () -> none.worth(0, 1));
    }

    // ---- Promise 22: splits

    // "SPLITS of a part: the MOMENT in which it is worn as much as STRENGTH first"
    static void splitsInTheMoment() {
        OneAnvil o = by("smithy 1 20 5;smith 1;smith 1;job 0 face 9 1 0;job 1 heel 9 1 0;part 0 4;part 2 3", "strike 1");
        dueRow("now, and one later", new int[] {o.splits(0, 0), o.splits(2, 0)}, 0, 1);
        dueRow("whose", new int[] {o.splits(0, 1), o.splits(2, 1)}, 0, 1);
        o.force(-1);
        dueRow("when HOT", new int[] {o.splits(0, 0), o.splits(2, 0)}, 1, 3);
        OneAnvil p = of(THREE);
        dueRow("by the weld", new int[] {p.splits(1, 0), p.splits(1, 1)}, 6, 2);
    }

    // "by whose BLOW (of a weld, too)."
    static void splitsByAWeld() {
        String two = "smithy 1 20 5;smith 1;smith 1;job 1 weld 9 1 0;job 0 ";
        OneAnvil o = by(two + "heel 9 1 0;part 0 4;part 1 4;part 2 4", "strike 1");
        dueRow("whose", new int[] {o.splits(0, 1), o.splits(1, 1), o.splits(2, 1)}, 1, 1, 0);
        OneAnvil p = by(two + "beak 9 1 0;part 0 4;part 1 4", "strike 1");
        dueRow("SMITH 0 is first; the weld never has a turn", new int[] {p.splits(0, 0), p.splits(1, 0)}, -2, 0);
        dueRow("whose", new int[] {p.splits(0, 1), p.splits(1, 1)}, -2, 0);
    }

    // "(in 500 MOMENTS;"; "-2: not in these"
    static void splitsIn500Moments() {
        String lone = "smithy 1 20 1;smith 20;job 0 face 9 20 0";
        OneAnvil o = by(lone, "strike moment/499", "strike moment/500");
        dueRow("in the 500th", new int[] {o.splits(0, 0), o.splits(0, 1)}, 499, 0);
        o.force(1);
        dueRow("in the 501st", new int[] {o.splits(0, 0), o.splits(0, 1)}, -2, -2);
        o.moment();
        dueRow("in the 500th from 1 on", new int[] {o.splits(0, 0), o.splits(0, 1)}, 500, 0);
        dueRow("never", new int[] {o.splits(1, 0), o.splits(2, 1)}, -2, -2);
    }

    // "SPLIT already: NONE)"; "(NONE: it is SPLIT; ..), 1: whose BLOW (NONE, -2 likewise)."
    static void splitsAlready() {
        OneAnvil o = of("smithy 1 20 5;part 0 4;part 1 5;part 2 6");
        dueRow("when", new int[] {o.splits(0, 0), o.splits(1, 0), o.splits(2, 0)}, -2, -1, -1);
        dueRow("whose", new int[] {o.splits(0, 1), o.splits(1, 1), o.splits(2, 1)}, -2, -1, -1);
        o.mend(2);
        due("MENDED", o.splits(2, 0), -2);
    }

    // "-3 without these."
    static void splitsWithoutThese() {
        OneAnvil o = of("smithy 1 20 5;part 1 5");
        refused(o, -3, () -> o.splits(3, 0), () -> o.splits(-1, 0), () -> o.splits(FAR_ABOVE, 0),
            () -> o.splits(FAR_BELOW, 0), () -> o.splits(0, 2), () -> o.splits(1, 2), () -> o.splits(1, -1),
            () -> o.splits(1, FAR_ABOVE), () -> o.splits(0, FAR_BELOW));
        OneAnvil none = new OneAnvil();
        refused(none, -3, () -> none.splits(0, 0), () -> none.splits(2, 1));
    }

    // ---- Promise 23: order

    // "ORDER of a SMITH's JOBS that are not done (5 at most)"; "-3: more than 5 JOBS."
    static void orderOf5JobsAtMost() {
        OneAnvil o = of(SIX_JOBS + ";smith 1;job 1 heel 1 1 0");
        refused(o, -3, () -> o.order(0, 0), () -> o.order(0, 1), () -> o.order(0, 5));
        due("of the other SMITH", o.order(1, 0), 2);
        go(o, 1);
        refused(o, -3, () -> o.order(0, 0));
        go(o, 1);
        dueRow("5 are left", order(o, 0), 12, 1, 2, 3, 4, 5);
        go(o, 8);
        dueRow("one is left", order(o, 0), 12, 5, -2, -2, -2, -2);
    }

    // "of all orders of them that by which their last one is done soonest"
    static void orderSoonest() {
        OneAnvil o = of("smithy 1 60 99;smith 20;smith 10;job 0 face 3 10 0;job 1 face 1 10 0;job 1 heel 1 10 0");
        dueRow("the heel ahead of the face", order(o, 1), 6, 2, 1, -2, -2, -2);
        OneAnvil q = of("smithy 1 60 99;smith 20;smith 10;job 1 face 1 10 0;job 1 heel 1 10 0;job 0 face 3 10 0");
        dueRow("JOB 1 ahead of 0", order(q, 1), 6, 1, 0, -2, -2, -2);
        OneAnvil p = of("smithy 1 60 99;smith 20;smith 20;job 0 face 9 10 0;job 1 face 1 10 0;job 1 beak 1 10 0;job 1 heel 1 10 0;job 1 beak 1 10 0;job 1 heel 1 10 0");
        dueRow("of five: the face is free in 10", order(p, 1), 11, 2, 3, 4, 5, 1);
    }

    // "(HEAT is 0, if another one than their JOB comes first;"
    static void orderWithAnotherOneFirst() {
        OneAnvil o = of("smithy 1 60 99;smith 20;smith 10;job 0 face 3 10 0;job 1 face 1 10 0;job 1 heel 1 10 0");
        go(o, 1);
        dueRow("HEAT 10 goes with it", order(o, 1), 5, 2, 1, -2, -2, -2);
        OneAnvil n = of("smithy 1 60 99;smith 20;smith 9;job 0 face 3 10 0;job 1 face 1 10 0;job 1 heel 1 10 0");
        go(n, 1);
        dueRow("HEAT 9 is 0 then, 2 heatings more", order(n, 1), 7, 2, 1, -2, -2, -2);
        n.quench(1);
        due("as without it", n.order(1, 0), 7);
        OneAnvil p = of("smithy 1 60 99;smith 10;job 0 face 1 40 0;job 0 heel 1 10 0");
        go(p, 3);
        dueRow("HEAT 30 stays with the JOB", order(p, 0), 7, 0, 1, -2, -2, -2);
        p.aside(0);
        dueRow("ASIDE: the other one is their JOB", order(p, 0), 10, 0, 1, -2, -2, -2);
        go(p, 1);
        dueRow("and stays so", order(p, 0), 10, 1, 0, -2, -2, -2);
    }

    // "in 500 MOMENTS;"; "(-2: not in these), 1 to 5: the JOB in that place (-2: .., or not in these)"
    static void orderIn500Moments() {
        OneAnvil o = by(BURNER_OF_ONE_BLOW, "strike moment/499");
        dueRow("in the 500th", order(o, 0), 500, 0, -2, -2, -2, -2);
        OneAnvil p = by(BURNER_OF_ONE_BLOW, "strike moment/501");
        go(p, 1);
        dueRow("in the 501st", order(p, 0), -2, -2, -2, -2, -2, -2);
        go(p, 1);
        dueRow("in the 500th from 2 on", order(p, 0), 502, 0, -2, -2, -2, -2);
        OneAnvil q = by(BURNER_OF_ONE_BLOW + ";job 0 heel 1 20 0", "strike hot if moment>=497", "strike hot if moment>=499");
        dueRow("the last of two in the 500th", order(q, 0), 500, 0, 1, -2, -2, -2);
        q.force(1);
        dueRow("the last of two in the 502nd", order(q, 0), -2, -2, -2, -2, -2, -2);
        go(q, 1);
        dueRow("in the 501st", order(q, 0), -2, -2, -2, -2, -2, -2);
        go(q, 1);
        dueRow("in the 500th from 2 on", order(q, 0), 502, 0, 1, -2, -2, -2);
    }

    // "none left: MOMENT);"
    static void orderOfNoneLeft() {
        OneAnvil o = of(BURNER_OF_ONE_BLOW + ";smith 3");
        dueRow("none at all", order(o, 1), 0, -2, -2, -2, -2, -2);
        go(o, 2);
        dueRow("none any more", order(o, 0), 2, -2, -2, -2, -2, -2);
        go(o, 3);
        due("MOMENT", o.order(0, 0), 5);
    }

    // "of several the first by numbers;"
    static void orderTheFirstByNumbers() {
        OneAnvil o = of("smithy 1 60 99;smith 20;job 0 face 1 10 0;job 0 heel 1 10 0;job 0 beak 1 10 0");
        dueRow("as told", order(o, 0), 6, 0, 1, 2, -2, -2);
        o.aside(0);
        dueRow("ASIDE or not", order(o, 0), 6, 0, 1, 2, -2, -2);
    }

    // "(-2: so many there are not"
    static void orderBeyondItsJobs() {
        OneAnvil o = of("smithy 1 60 99;smith 20;job 0 face 1 10 0;job 0 heel 1 10 0");
        refused(o, -2, () -> o.order(0, 3), () -> o.order(0, 4), () -> o.order(0, 5));
        due("the last one", o.order(0, 2), 1);
    }

    // "NONE without these."
    static void orderWithoutThese() {
        OneAnvil o = of(SIX_JOBS);
        refused(o, -1, () -> o.order(0, 6), () -> o.order(0, -1), () -> o.order(0, FAR_ABOVE), () -> o.order(0, FAR_BELOW),
            () -> o.order(1, 0), () -> o.order(3, 0), () -> o.order(-1, 0), () -> o.order(FAR_ABOVE, 0),
            () -> o.order(FAR_BELOW, 0));
        OneAnvil none = new OneAnvil();
        refused(none, -1, () -> none.order(0, 0));
    }
}
