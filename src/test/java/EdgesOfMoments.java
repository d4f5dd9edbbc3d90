/**
 * The edges of part II (MOMENTS and ACTS) and of promises 7 to 14. Ahead of each test stands the sentence of
 * ../shared/DOC.md that it holds.
 */
public final class EdgesOfMoments extends Bench {
    /** HEATS at the begin of MOMENTS 0 to 6: 0 10 20 18 28 26 0; BLOWS in 2, 4 and 5; done at 6. */
    private static final String LONE = "smithy 2 30 99;smith 10;job 0 face 3 20 5";
    private static final String TWO_ON_FACE = "smithy 3 30 99;smith 10;smith 10;job 0 face 2 10 4;job 1 face 2 10 5";
    private static final String THREE_JOBS = "smithy 2 30 99;smith 10;job 0 face 2 10 3;job 0 beak 2 10 4;job 0 heel 2 10 5";

    public static void main(String[] args) {
        runAll(EdgesOfMoments.class);
    }

    private static int[] heats(OneAnvil o) {
        int[] row = new int[o.count(3)];
        for (int i = 0; i < row.length; i++) row[i] = o.smith(i, 0);
        return row;
    }

    private static int[] worn(OneAnvil o) {
        return new int[] {o.worn(0), o.worn(1), o.worn(2)};
    }

    // ---- II: who strikes

    // "A SMITH's JOB is the first one of theirs, in the order told, that is not done"
    static void theFirstJobThatIsNotDone() {
        OneAnvil o = of("smithy 1 20 9;smith 10;smith 10;job 1 heel 1 5 0;job 0 face 1 5 0;job 1 beak 1 5 0;job 0 heel 1 5 0");
        dueRow("at first", new int[] {o.smith(0, 1), o.smith(1, 1), o.smith(2, 1)}, 1, 0, -2);
        go(o, 2);
        dueRow("then", new int[] {o.smith(0, 1), o.smith(1, 1)}, 3, 2);
        go(o, 2);
        dueRow("none", new int[] {o.smith(0, 1), o.smith(1, 1)}, -1, -1);
    }

    // "It is HOT, if HEAT is as much as the JOB's, or more."
    static void hotFromTheHeatOfTheJobOn() {
        String job = "smithy 1 99 99;smith 10;job 0 face 9 ";
        int[] need = {9, 10, 11};
        int[] hot = {1, 1, 0};
        for (int k = 0; k < 3; k++) {
            OneAnvil o = of(job + need[k] + " 0");
            go(o, 1);
            due("HEAT 10 for " + need[k], o.smith(0, 2), hot[k]);
            due("strikes", o.moment(), hot[k]);
        }
    }

    // "A part is SPLIT, if it is worn as much as STRENGTH, or more."
    static void splitFromStrengthOn() {
        int[] told = {4, 5, 6};
        int[] split = {0, 2, 2};
        for (int k = 0; k < 3; k++) {
            OneAnvil o = by("smithy 1 20 5;smith 10;job 0 beak 9 10 0;part 1 " + told[k], "strike 1");
            due("worn " + told[k], o.count(10), split[k]);
            o.moment();
            due("waits", o.smith(0, 3), split[k] / 2);
            due("worn then", o.worn(1), Math.max(5, told[k]));
        }
    }

    // "each SMITH who has a JOB wills to STRIKE, or to HEAT": who has none does neither
    static void whoHasNoJobDoesNothing() {
        OneAnvil o = of("smithy 1 20 9;smith 10;smith 9;smith 8;job 1 face 1 9 0", "strike 1", "strike 0");
        for (int rule = -1; rule < 2; rule++) {
            o.force(rule);
            o.moment();
            due("SMITH 0", o.smith(0, 0) + o.smith(0, 3) + o.smith(0, 6) + o.smith(0, 8), 0);
            due("SMITH 2", o.smith(2, 0) + o.smith(2, 3) + o.smith(2, 6) + o.smith(2, 8), 0);
        }
        due("without SMITHS", of("smithy 1 20 9").moment(), 0);
    }

    // "by the RULE IN FORCE to STRIKE, if the SUM .. is above 0;"
    static void strikesAbove0Alone() {
        String[] sums = {"0", "1", "0-1", "hot", "65536*65536*65536*32768", "65536*65536*65536*32767"};
        int[] cold = {0, 1, 0, 0, 0, 1};
        for (int k = 0; k < sums.length; k++) {
            OneAnvil o = by(LONE, "strike " + sums[k]);
            o.moment();
            due(sums[k], o.smith(0, 8), cold[k]);
            due("else it heats", o.smith(0, 0), cold[k] == 1 ? 0 : 10);
        }
    }

    // "of the first CLAUSE without a TEST, or whose TEST holds"
    static void theFirstClauseThatHolds() {
        String[] rules = {"strike 0;strike 1", "strike 1;strike 0", "strike 1 if 1=2;strike 0 if 1=1;strike 1",
            "strike 0 if 1=2;strike 1 if 1=1;strike 0", "strike 0 if 1=2;strike 1;strike 0 if 1=1"};
        int[] cold = {0, 1, 0, 1, 1};
        for (int k = 0; k < rules.length; k++) {
            OneAnvil o = by(LONE, rules[k]);
            o.moment();
            due(rules[k], o.smith(0, 8), cold[k]);
        }
    }

    // "(0 without)": no CLAUSE holds
    static void noClauseThatHolds() {
        OneAnvil o = by(LONE, "strike 1 if 1=2;strike 2 if 1=3");
        o.moment();
        due("heats", o.smith(0, 0), 10);
    }

    // "without a RULE, if it is HOT."
    static void withoutARuleIfHot() {
        OneAnvil o = of(LONE, "strike 0");
        int[] heat = {0, 10, 20, 18, 28, 26, 0, 0};
        int[] blows = {0, 0, 1, 0, 1, 1, 0, 0};
        for (int k = 0; k < 8; k++) {
            due("HEAT at " + k, o.smith(0, 0), heat[k]);
            due("BLOWS in " + k, o.moment(), blows[k]);
        }
        due("no cold ones", o.smith(0, 8), 0);
    }

    // "By numbers, who wills to STRIKE has a turn, if no part of the JOB is taken in this MOMENT"
    static void turnsByNumbers() {
        OneAnvil o = by("smithy 1 20 99;smith 1;smith 1;smith 1;job 0 face 9 1 0;job 1 face 9 1 0;job 2 face 9 1 0", "strike 1");
        go(o, 3);
        dueRow("waits", new int[] {o.smith(0, 3), o.smith(1, 3), o.smith(2, 3)}, 0, 3, 3);
        dueRow("turns", new int[] {o.smith(0, 8), o.smith(1, 8), o.smith(2, 8)}, 3, 0, 0);
        dueRow("worn once in each", worn(o), 3, 0, 0);
    }

    // "these are taken then; else they WAIT.": who waits takes nothing
    static void whoWaitsTakesNothing() {
        String three = "smithy 1 20 99;smith 1;smith 1;smith 1;";
        OneAnvil o = by(three + "job 0 face 9 1 0;job 1 weld 9 1 0;job 2 beak 9 1 0", "strike 1");
        o.moment();
        dueRow("the weld waits, the beak doesn't", new int[] {o.smith(0, 3), o.smith(1, 3), o.smith(2, 3)}, 0, 1, 0);
        dueRow("worn", worn(o), 1, 1, 0);
        OneAnvil p = by(three + "job 0 weld 9 1 0;job 1 face 9 1 0;job 2 beak 9 1 0", "strike 1");
        p.moment();
        dueRow("the weld takes both", new int[] {p.smith(0, 3), p.smith(1, 3), p.smith(2, 3)}, 0, 1, 1);
        dueRow("worn", worn(p), 1, 1, 0);
        OneAnvil q = by(three + "job 0 weld 9 1 0;job 1 heel 9 1 0;job 2 weld 9 1 0", "strike 1");
        q.moment();
        dueRow("no heel", new int[] {q.smith(0, 3), q.smith(1, 3), q.smith(2, 3)}, 0, 0, 1);
        dueRow("worn", worn(q), 1, 1, 1);
    }

    // "or SPLIT": of a weld, too, be it one part alone
    static void noTurnOnASplitPart() {
        String two = "smithy 1 20 9;smith 1;smith 1;job 0 weld 9 1 0;job 1 ";
        OneAnvil o = by(two + "face 9 1 0;part 1 9", "strike 1");
        o.moment();
        dueRow("the beak is SPLIT", new int[] {o.smith(0, 3), o.smith(1, 3)}, 1, 0);
        dueRow("worn", worn(o), 1, 9, 0);
        OneAnvil p = by(two + "beak 9 1 0;part 0 9", "strike 1");
        p.moment();
        dueRow("the face is SPLIT", new int[] {p.smith(0, 3), p.smith(1, 3)}, 1, 0);
        OneAnvil q = by(two + "beak 9 1 0;part 2 9", "strike 1");
        q.moment();
        dueRow("the heel is SPLIT", new int[] {q.smith(0, 3), q.smith(1, 3)}, 0, 1);
    }

    // "each part of the JOB is worn 1 more (all at the MOMENT's end": no one's will hangs on this MOMENT's BLOWS
    static void wornAtTheEndOfTheMoment() {
        OneAnvil o = by(TWO_ON_FACE, "strike 1 if worn=0");
        o.moment();
        due("SMITH 1 willed to STRIKE, too", o.smith(1, 3), 1);
        due("worn", o.worn(0), 1);
        OneAnvil p = of("smithy 3 30 99;smith 10;smith 10;job 0 face 1 10 4;job 1 face 2 10 5", "strike rivals");
        go(p, 1);
        p.force(0);
        go(p, 1);
        due("JOB 0 is done", p.smith(0, 1), -1);
        due("but was a rival", p.smith(1, 3), 1);
    }

    // "9999 at most": a part that is SPLIT is worn no more, so that STRENGTH, or what was told, is the most
    static void wornNoMoreThanStrength() {
        OneAnvil o = by("smithy 1 20 999;smith 1;job 0 weld 9 1 0;part 0 998;part 2 999", "strike 1");
        go(o, 3);
        dueRow("worn", worn(o), 999, 1, 999);
        due("waits", o.smith(0, 3), 2);
    }

    // "if it was HOT, one BLOW is done (else none: it was a cold one);"
    static void blowsOfHotAndOfColdIron() {
        OneAnvil o = of(LONE, "strike 1");
        go(o, 2);
        o.force(0);
        due("HOT at 20", o.moment(), 1);
        due("to go", o.job(0, 2), 2);
        due("not at 18", o.moment(), 0);
        due("to go still", o.job(0, 2), 2);
        due("a cold one", o.smith(0, 8), 1);
        due("worn by both", o.worn(0), 2);
    }

    // "HEAT is COOL less (0 at least)."
    static void strikingCools() {
        String five = "smithy 9 30 99;smith ";
        int[] quick = {8, 9, 10};
        int[] left = {0, 0, 1};
        for (int k = 0; k < 3; k++) {
            OneAnvil o = of(five + quick[k] + ";job 0 face 9 1 0");
            go(o, 2);
            due("from " + quick[k], o.smith(0, 0), left[k]);
        }
        OneAnvil p = by(LONE, "strike 1");
        p.moment();
        due("from 0", p.smith(0, 0), 0);
    }

    // "Who WAITS: HEAT is COOL less, too." (0 at least)
    static void waitingCools() {
        int[] quick = {8, 9, 10};
        int[] left = {0, 0, 1};
        for (int k = 0; k < 3; k++) {
            OneAnvil o = of("smithy 9 30 9;smith " + quick[k] + ";job 0 heel 9 1 0;part 2 9", "strike 1");
            go(o, 2);
            due("from " + quick[k], o.smith(0, 0), left[k]);
            due("waits", o.smith(0, 3), 1);
            o.force(0);
            go(o, 1);
            due("0 at least", o.smith(0, 0), 0);
            due("no cold BLOWS", o.smith(0, 8), 0);
        }
    }

    // "Who HEATS: HEAT is QUICK more; above BURN it is BURNT:"
    static void burntAboveBurn() {
        int[] quick = {10, 11, 20};
        int[][] heats = {{10, 20, 0, 10}, {11, 0, 11, 0}, {20, 0, 20, 0}};
        for (int k = 0; k < 3; k++) {
            OneAnvil o = of("smithy 1 20 9;smith " + quick[k] + ";job 0 face 1 50 0");
            int burnt = 0;
            for (int m = 0; m < 4; m++) {
                o.moment();
                due("HEAT by " + quick[k], o.smith(0, 0), heats[k][m]);
                burnt += heats[k][m] == 0 ? 1 : 0;
                due("BURNT by " + quick[k], o.smith(0, 6), burnt);
            }
        }
    }

    // "all BLOWS of the JOB are to do anew, HEAT is 0."
    static void burntMeansAnew() {
        OneAnvil o = of("smithy 2 30 99;smith 20;smith 10;job 0 face 1 10 9;job 0 beak 3 10 5;job 1 heel 3 10 0", "strike 0");
        go(o, 4);
        dueRow("to go", new int[] {o.job(0, 2), o.job(1, 2), o.job(2, 2)}, 0, 2, 1);
        o.force(0);
        go(o, 1);
        dueRow("BURNT is SMITH 0 alone", new int[] {o.smith(0, 6), o.smith(1, 6)}, 1, 0);
        dueRow("to go anew", new int[] {o.job(0, 2), o.job(1, 2), o.job(2, 2)}, 0, 3, 1);
        dueRow("HEATS", heats(o), 0, 26);
        dueRow("the JOB and what was done stay", new int[] {o.smith(0, 1), o.smith(0, 4), o.smith(0, 5)}, 1, 1, 9);
    }

    // "A JOB without BLOWS to go is done (its PAY is earned), HEAT is 0."
    static void theLastBlowOfAJob() {
        OneAnvil o = of(THREE_JOBS);
        go(o, 2);
        dueRow("one to go", new int[] {o.job(0, 2), o.smith(0, 0), o.smith(0, 4), o.smith(0, 5), o.count(8)}, 1, 8, 0, 0, 0);
        go(o, 2);
        dueRow("done", new int[] {o.job(0, 2), o.smith(0, 0), o.smith(0, 4), o.smith(0, 5), o.count(8)}, 0, 0, 1, 3, 1);
        due("the next one", o.smith(0, 1), 1);
        go(o, 8);
        dueRow("all", new int[] {o.smith(0, 1), o.smith(0, 4), o.smith(0, 5), o.count(8), o.count(9)}, -1, 3, 12, 7, 12);
    }

    // "MOMENT is 1 more (9999 at most).", and promise 10: "NONE, and nothing happens, .. at MOMENT 9999." (This lies
    // behind the 512th call, where what is answered is free; it is held all the same.)
    static void theLastMoment() {
        OneAnvil o = of(LONE);
        go(o, 9998);
        due("9998", o.count(7), 9998);
        due("goes by", o.moment(), 0);
        due("9999", o.count(7), 9999);
        refused(o, -1, () -> o.moment());
        due("ACTS", o.count(12), 20);
        due("UNDO", o.undo(), 19);
        due("9998 again", o.count(7), 9998);
    }

    // ---- II: ACTS

    // "QUENCH (a SMITH's HEAT is 0);": of the others and of the JOB nothing
    static void quenchTakesTheHeatAlone() {
        OneAnvil o = of(TWO_ON_FACE);
        go(o, 2);
        due("HEAT it was", o.quench(0), 7);
        dueRow("HEATS", heats(o), 0, 7);
        due("BLOWS to go", o.job(0, 2), 1);
        due("waits of the other", o.smith(1, 3), 1);
        due("HEAT it was", o.quench(1), 7);
        due("a QUENCH is no MOMENT, waits go on", o.smith(1, 3), 1);
        due("MOMENT", o.count(7), 2);
    }

    // "MEND (a part is worn half, downwards);"
    static void mendHalvesDownwards() {
        OneAnvil o = of("smithy 1 20 9;part 0 999;part 1 3;part 2 1");
        dueRow("half", new int[] {o.mend(0), o.mend(1), o.mend(2)}, 499, 1, 0);
        dueRow("worn", worn(o), 499, 1, 0);
        due("once more", o.mend(0), 249);
        due("1", o.mend(1), 0);
    }

    // "MEND": a part that was SPLIT is so no more, below STRENGTH
    static void mendOfASplitPart() {
        OneAnvil o = by("smithy 1 20 5;smith 1;job 0 face 9 1 0;part 0 10", "strike 1");
        o.moment();
        due("SPLIT", o.smith(0, 3), 1);
        due("half is SPLIT still", o.mend(0) + o.count(10), 6);
        due("then not", o.mend(0) + o.count(10), 2);
        o.moment();
        due("a turn ends the waits", o.smith(0, 3), 0);
    }

    // "ASIDE (a SMITH's JOB becomes the last one of theirs that are not done; its BLOWS stay; HEAT is 0)."
    static void asideMakesItTheLast() {
        OneAnvil o = of(THREE_JOBS);
        go(o, 2);
        dueRow("comes", new int[] {o.aside(0), o.smith(0, 1), o.smith(0, 0), o.job(0, 2)}, 1, 1, 0, 1);
        dueRow("and so on", new int[] {o.aside(0), o.aside(0), o.aside(0), o.aside(0)}, 2, 0, 1, 2);
        go(o, 4);
        due("JOB 2 is done", o.count(8), 4);
        dueRow("by turns", new int[] {o.smith(0, 1), o.aside(0), o.aside(0), o.aside(0)}, 0, 1, 0, 1);
    }

    // "ASIDE": the order of others is as it was
    static void asideLeavesTheOthers() {
        OneAnvil o = of("smithy 1 20 9;smith 5;smith 5;job 1 face 1 5 0;job 0 face 1 5 0;job 1 beak 1 5 0;job 0 beak 1 5 0");
        go(o, 1);
        due("comes", o.aside(1), 2);
        dueRow("JOBS", new int[] {o.smith(0, 1), o.smith(1, 1)}, 1, 2);
        dueRow("HEATS", heats(o), 5, 0);
        due("waits stay, too", o.smith(0, 3) + o.smith(1, 3), 0);
    }

    // "The last 20 can be UNDONE, the last first."
    static void theLast20CanBeUndone() {
        OneAnvil o = by("smithy 1 20 9;smith 20;job 0 face 1 50 0", "strike 0");
        for (int k = 1; k <= 20; k++) {
            o.moment();
            due("count", o.count(12), k);
        }
        o.moment();
        due("the 21st", o.count(12), 20);
        for (int k = 19; k >= 0; k--) due("one of 20", o.undo(), k);
        due("one stays", o.count(7), 1);
        due("its HEAT", o.smith(0, 0), 20);
        due("none can", o.undo(), -1);
        for (int k = 1; k <= 3; k++) o.moment();
        due("as many as came since", o.count(12), 3);
        due("of these", o.undo(), 2);
        due("MOMENT", o.count(7), 3);
    }

    // ---- Promise 7: smith

    // "0: HEAT, 1: their JOB (NONE)"
    static void smithHeatAndJob() {
        OneAnvil o = of("smithy 2 30 99;smith 10;smith 3;job 0 face 1 10 5");
        dueRow("at first", new int[] {o.smith(0, 0), o.smith(0, 1), o.smith(1, 0), o.smith(1, 1)}, 0, 0, 0, -1);
        go(o, 1);
        due("HEAT", o.smith(0, 0), 10);
        go(o, 1);
        due("all done", o.smith(0, 1), -1);
    }

    // "2: 1 if HOT, else 0 (without a JOB, too)"
    static void smithHot() {
        OneAnvil o = of("smithy 2 30 99;smith 10;smith 3;job 0 face 1 10 5");
        due("cold", o.smith(0, 2), 0);
        go(o, 1);
        due("HOT", o.smith(0, 2), 1);
        due("without a JOB from the begin on", o.smith(1, 2), 0);
        go(o, 1);
        due("without a JOB any more", o.smith(0, 2), 0);
    }

    // "3: MOMENTS they have waited on end"
    static void smithWaits() {
        OneAnvil o = of(TWO_ON_FACE, "strike 1");
        due("at first", o.smith(1, 3), 0);
        o.force(0);
        for (int k = 1; k < 4; k++) {
            o.moment();
            due("waits " + k, o.smith(1, 3), k);
        }
        o.force(-1);
        o.moment();
        due("heating ends it", o.smith(1, 3), 0);
        OneAnvil p = by("smithy 1 20 9;smith 1;smith 1;job 0 face 1 1 0;job 1 face 1 1 0", "strike moment");
        go(p, 2);
        due("one waits", p.smith(1, 3), 1);
        go(p, 1);
        due("a turn ends it", p.smith(1, 3), 0);
    }

    // "4: JOBS done, 5: PAY earned,"
    static void smithDoneAndPay() {
        OneAnvil o = of("smithy 2 30 99;smith 10;smith 20;job 0 face 1 10 0;job 0 face 1 10 50;job 1 beak 1 20 7");
        dueRow("none", new int[] {o.smith(0, 4), o.smith(0, 5), o.smith(1, 4), o.smith(1, 5)}, 0, 0, 0, 0);
        go(o, 2);
        dueRow("one without PAY", new int[] {o.smith(0, 4), o.smith(0, 5), o.smith(1, 4), o.smith(1, 5)}, 1, 0, 1, 7);
        go(o, 2);
        dueRow("both", new int[] {o.smith(0, 4), o.smith(0, 5), o.smith(1, 4), o.smith(1, 5)}, 2, 50, 1, 7);
    }

    // "6: how often BURNT, 7: QUICK, 8: cold BLOWS so far."
    static void smithBurntQuickCold() {
        OneAnvil o = of("smithy 1 20 99;smith 20;smith 11;job 0 face 2 50 0;job 1 beak 2 50 0", "strike 1");
        dueRow("at first", new int[] {o.smith(0, 6), o.smith(0, 7), o.smith(0, 8), o.smith(1, 7)}, 0, 20, 0, 11);
        go(o, 4);
        o.force(0);
        go(o, 3);
        dueRow("then", new int[] {o.smith(0, 6), o.smith(1, 6), o.smith(0, 8), o.smith(1, 8)}, 2, 2, 3, 3);
        due("quick stays", o.smith(1, 7), 11);
    }

    // "-2 without these."
    static void smithWithoutThese() {
        OneAnvil o = of(TWO_ON_FACE);
        refused(o, -2, () -> o.smith(2, 0), () -> o.smith(3, 0), () -> o.smith(-1, 0), () -> o.smith(FAR_ABOVE, 7),
            () -> o.smith(FAR_BELOW, 7), () -> o.smith(0, 9), () -> o.smith(0, -1), () -> o.smith(1, FAR_ABOVE),
            () -> o.smith(1, FAR_BELOW), () -> o.smith(-1, -1), () -> o.smith(2, 9));
        OneAnvil none = new OneAnvil();
        refused(none, -2, () -> none.smith(0, 0), () -> none.smith(0, 1), () -> none.smith(0, 9));
        OneAnvil bare = of("smithy 1 20 9");
        refused(bare, -2, () -> bare.smith(0, 0));
    }

    // ---- Promise 8: job

    // "0: SMITH, 1: PART (..), 2: BLOWS to go, 3: HEAT, 4: PAY"
    static void jobAsTold() {
        OneAnvil o = of("smithy 1 20 9;smith 1;smith 2;job 1 weld 30 50 50;job 0 heel 1 1 0");
        int[][] want = {{1, 3, 30, 50, 50, -1}, {0, 2, 1, 1, 0, -1}};
        for (int j = 0; j < 2; j++) {
            for (int k = 0; k < 6; k++) due("JOB " + j + ", " + k, o.job(j, k), want[j][k]);
        }
    }

    // "5: the MOMENT at whose begin it was done first (NONE)."
    static void jobDoneAt() {
        OneAnvil o = of(LONE);
        go(o, 5);
        due("not yet", o.job(0, 5), -1);
        go(o, 1);
        due("at the begin of 6", o.job(0, 5), 6);
        go(o, 3);
        due("it stays", o.job(0, 5), 6);
    }

    // "-2 without these."
    static void jobWithoutThese() {
        OneAnvil o = of(TWO_ON_FACE);
        refused(o, -2, () -> o.job(2, 0), () -> o.job(8, 0), () -> o.job(-1, 0), () -> o.job(FAR_ABOVE, 5),
            () -> o.job(FAR_BELOW, 5), () -> o.job(0, 6), () -> o.job(0, -1), () -> o.job(1, FAR_ABOVE),
            () -> o.job(1, FAR_BELOW));
        OneAnvil full = of("smithy 1 20 9;smith 1" + times(";job 0 face 1 1 7", 8));
        due("JOB 7", full.job(7, 4), 7);
        refused(full, -2, () -> full.job(8, 0));
        OneAnvil none = new OneAnvil();
        refused(none, -2, () -> none.job(0, 0), () -> none.job(0, 5));
    }

    // ---- Promise 9: worn

    // "How much a part (0 to 2) is worn; NONE without it, or a SMITHY."
    static void wornWithoutIt() {
        OneAnvil o = of("smithy 1 20 9;part 0 1;part 1 2;part 2 3");
        dueRow("worn", worn(o), 1, 2, 3);
        refused(o, -1, () -> o.worn(3), () -> o.worn(-1), () -> o.worn(FAR_ABOVE), () -> o.worn(FAR_BELOW));
        OneAnvil none = new OneAnvil();
        refused(none, -1, () -> none.worn(0), () -> none.worn(2), () -> none.worn(3));
    }

    // ---- Promise 10: moment

    // "A MOMENT: BLOWS done in it (no cold ones);"
    static void momentTellsBlows() {
        OneAnvil o = of("smithy 1 20 99;smith 1;smith 2;smith 3;job 0 face 9 1 0;job 1 beak 9 1 0;job 2 heel 9 1 0", "strike 1");
        o.force(0);
        due("three cold ones", o.moment(), 0);
        o.force(-1);
        due("none strikes", o.moment(), 0);
        due("three", o.moment(), 3);
        due("of two the iron is cold again", o.moment(), 2);
    }

    // "NONE, and nothing happens, without a SMITHY"
    static void momentWithoutASmithy() {
        OneAnvil o = new OneAnvil();
        refused(o, -1, () -> o.moment());
        due("MOMENT", o.count(7), 0);
        due("ACTS", o.count(12), 0);
    }

    // ---- Promise 11: quench

    // "QUENCH: HEAT it was; NONE, and nothing happens, without that SMITH, or at HEAT 0."
    static void quenchWithoutHeat() {
        OneAnvil o = of("smithy 1 20 9;smith 1;smith 2;job 0 face 1 5 0");
        refused(o, -1, () -> o.quench(0), () -> o.quench(1));
        go(o, 1);
        refused(o, -1, () -> o.quench(1), () -> o.quench(2), () -> o.quench(-1), () -> o.quench(FAR_ABOVE),
            () -> o.quench(FAR_BELOW));
        due("at HEAT 1", o.quench(0), 1);
        due("an ACT", o.count(12), 2);
        refused(o, -1, () -> o.quench(0));
        OneAnvil none = new OneAnvil();
        refused(none, -1, () -> none.quench(0));
    }

    // ---- Promise 12: mend

    // "MEND: how much it is worn then; NONE, and nothing happens, without that part, or if it is worn 0."
    static void mendWithoutWear() {
        OneAnvil o = of("smithy 1 20 9;part 1 1");
        refused(o, -1, () -> o.mend(0), () -> o.mend(2), () -> o.mend(3), () -> o.mend(-1), () -> o.mend(FAR_ABOVE),
            () -> o.mend(FAR_BELOW));
        due("worn 1", o.mend(1), 0);
        due("an ACT", o.count(12), 1);
        refused(o, -1, () -> o.mend(1));
        OneAnvil none = new OneAnvil();
        refused(none, -1, () -> none.mend(0), () -> none.mend(2));
    }

    // ---- Promise 13: aside

    // "ASIDE: the JOB that comes in its place; NONE, and nothing happens, without that SMITH"
    static void asideWithoutThatSmith() {
        OneAnvil o = of(THREE_JOBS);
        refused(o, -1, () -> o.aside(1), () -> o.aside(-1), () -> o.aside(3), () -> o.aside(FAR_ABOVE),
            () -> o.aside(FAR_BELOW));
        OneAnvil none = new OneAnvil();
        refused(none, -1, () -> none.aside(0));
    }

    // "or with fewer than two JOBS not done."
    static void asideWithFewerThanTwo() {
        OneAnvil o = of("smithy 1 30 9;smith 10;smith 10;smith 9;job 0 face 1 10 0;job 0 heel 1 10 0;job 1 beak 9 50 0");
        refused(o, -1, () -> o.aside(1), () -> o.aside(2));
        due("of two", o.aside(0), 1);
        due("an ACT", o.count(12), 1);
        go(o, 2);
        refused(o, -1, () -> o.aside(0));
        go(o, 2);
        refused(o, -1, () -> o.aside(0));
    }

    // ---- Promise 14: undo

    // "The last ACT is UNDONE: how many more can be": each of the four ACTS
    static void undoOfEachAct() {
        OneAnvil o = of(THREE_JOBS + ";part 1 7", "strike 1", "strike 0");
        go(o, 2);
        String[] states = new String[5];
        states[0] = seen(o);
        due("quench", o.quench(0), 8);
        due("undo", o.undo(), 2);
        due("quench undone", seen(o).equals(states[0]) ? 1 : 0, 1);
        o.mend(1);
        due("undo", o.undo(), 2);
        due("mend undone", seen(o).equals(states[0]) ? 1 : 0, 1);
        o.aside(0);
        due("undo", o.undo(), 2);
        due("aside undone", o.smith(0, 1) * 100 + o.smith(0, 0), 8);
    }

    // "The last ACT is UNDONE": of a MOMENT all that it changed
    static void undoOfAMoment() {
        OneAnvil o = of("smithy 2 30 99;smith 10;smith 20;smith 9;job 0 face 1 10 5;job 1 face 2 10 0;job 2 beak 2 30 1", "strike 1 if smith=0;strike 0");
        go(o, 1);
        o.force(0);
        String before = seen(o);
        o.moment();
        dueRow("a JOB done, one BURNT", new int[] {o.count(8), o.smith(1, 6), o.count(9)}, 1, 1, 5);
        due("undo", o.undo(), 1);
        due("all of it", seen(o).equals(before) ? 1 : 0, 1);
    }

    // "The last ACT is UNDONE": waits, and cold BLOWS
    static void undoOfWaitsAndColdBlows() {
        OneAnvil o = by(TWO_ON_FACE, "strike 1");
        o.moment();
        String before = seen(o);
        o.moment();
        dueRow("waits, cold", new int[] {o.smith(1, 3), o.smith(0, 8), o.worn(0)}, 2, 2, 2);
        due("undo", o.undo(), 1);
        dueRow("undone", new int[] {o.smith(1, 3), o.smith(0, 8), o.worn(0)}, 1, 1, 1);
        due("all of it", seen(o).equals(before) ? 1 : 0, 1);
    }

    // "The last ACT is UNDONE": what isn't an ACT stays
    static void undoLeavesTheRest() {
        OneAnvil o = of(LONE, "strike 1");
        o.moment();
        o.force(0);
        o.seed(5);
        o.note(0, 0, 0);
        o.feed(0, 0, 0, 0, 0);
        due("undo", o.undo(), 0);
        dueRow("stay", new int[] {o.count(6), o.count(13), o.count(11), o.count(14), o.count(5)}, 0, 5, 1, 20, 1);
    }

    // "NONE, and nothing happens: none can."
    static void undoOfNone() {
        OneAnvil none = new OneAnvil();
        refused(none, -1, () -> none.undo());
        OneAnvil o = of(LONE);
        refused(o, -1, () -> o.undo());
        o.moment();
        due("one", o.undo(), 0);
        refused(o, -1, () -> o.undo(), () -> o.undo());
        o.quench(0);
        o.mend(0);
        o.aside(0);
        refused(o, -1, () -> o.undo());
    }
}
