/**
 * The edges of NOTES, RULED, LOOK, SECOND, DRAWS, counts and IMAGES, promises 24 to 32, and of the 512 calls. Ahead
 * of each test stands the sentence of ../shared/DOC.md that it holds.
 */
public final class EdgesOfNotes extends Bench {
    /** By none the face is worn in 2, 3 .., by "strike 0" never, by "strike 1" from 0 on. */
    private static final String LONE = "smithy 1 30 99;smith 10;job 0 face 30 20 0";
    private static final String TWO_ON_FACE = "smithy 1 30 99;smith 10;smith 10;job 0 face 2 10 0;job 1 face 2 10 0";
    /** Of its MOMENTS 0 to 7: BLOWS 0 0 2 2 1 1 2 0; all is done at 7; the beak splits in 6. */
    private static final String THREE = "smithy 2 30 6;smith 10;smith 8;smith 15;job 0 face 3 15 5;"
        + "job 1 beak 2 12 7;job 2 weld 2 20 9;job 0 heel 1 5 3;part 1 2";

    public static void main(String[] args) {
        runAll(EdgesOfNotes.class);
    }

    private static int[] ruled(OneAnvil o) {
        return new int[] {o.ruled(0), o.ruled(1)};
    }

    private static int[] look(OneAnvil o, int n) {
        return new int[] {o.look(n, 0), o.look(n, 1)};
    }

    // ---- Promise 24: note

    // "A NOTE (n NONE, also without a SMITHY: there are none then, 0;"
    static void noteNoneTakesThemAway() {
        OneAnvil none = new OneAnvil();
        due("without a SMITHY", none.note(-1, 0, 0), 0);
        OneAnvil o = of(LONE);
        due("of none", o.note(-1, 0, 0), 0);
        o.note(1, 0, 1);
        o.note(2, 0, 1);
        due("of two", o.note(-1, 0, 0), 0);
        due("NOTES", o.count(11), 0);
        dueRow("all is so", ruled(o), 1, -1);
        o.note(1, 0, 1);
        due("whatever the part and how worn", o.note(-1, 9, -9), 0);
        due("no ACT", o.count(12), 0);
    }

    // "NOTES 0 to 9, told: at the begin of the n-th MOMENT of all (0 to 99) a part was worn so much."; "0 to 9999)"
    static void notesFrom0To99() {
        OneAnvil o = of(LONE);
        due("the least", o.note(0, 0, 0), 1);
        due("the most", o.note(99, 2, 9999), 2);
        refused(o, -2, () -> o.note(100, 0, 0), () -> o.note(-2, 0, 0), () -> o.note(FAR_ABOVE, 0, 0),
            () -> o.note(FAR_BELOW, 0, 0), () -> o.note(0, 0, -1), () -> o.note(0, 0, 10000),
            () -> o.note(0, 0, FAR_ABOVE), () -> o.note(0, 0, FAR_BELOW));
    }

    // "-2, and nothing happens, without these,"
    static void noteWithoutThatPart() {
        OneAnvil o = of(LONE);
        refused(o, -2, () -> o.note(0, 3, 0), () -> o.note(0, -1, 0), () -> o.note(0, FAR_ABOVE, 0),
            () -> o.note(0, FAR_BELOW, 0));
        dueRow("parts 0 to 2", new int[] {o.note(0, 0, 0), o.note(0, 1, 0), o.note(0, 2, 0)}, 1, 2, 3);
    }

    // "or a SMITHY,"
    static void noteWithoutASmithy() {
        OneAnvil none = new OneAnvil();
        refused(none, -2, () -> none.note(0, 0, 0), () -> none.note(99, 2, 1), () -> none.note(100, 3, -1));
    }

    // "or if there are 10."
    static void noteWhereThereAre10() {
        OneAnvil o = of(LONE);
        for (int k = 1; k <= 10; k++) due("NOTE " + k, o.note(0, 0, 0), k);
        refused(o, -2, () -> o.note(0, 0, 0), () -> o.note(1, 1, 1));
        dueRow("the eleventh doesn't count", ruled(o), 1, -1);
        due("none again", o.note(-1, 0, 0), 0);
        due("one", o.note(0, 0, 7), 1);
        dueRow("it counts", ruled(o), 0, -2);
    }

    // "NOTES 0 to 9": the tenth of them counts
    static void theTenthNoteCounts() {
        OneAnvil o = of(LONE);
        for (int k = 1; k <= 9; k++) o.note(0, 0, 0);
        due("so far", o.ruled(0), 1);
        due("NOTE 9", o.note(0, 0, 1), 10);
        due("not so", o.ruled(0), 0);
    }

    // ---- Promise 25: ruled

    // "RULED: which of the RULES, and of none, so that .. all NOTES are so: how many; the first"
    static void ruledByWhich() {
        OneAnvil o = of(LONE, "strike 0", "strike 1", "strike hot");
        dueRow("without NOTES", ruled(o), 4, -1);
        o.note(2, 0, 0);
        dueRow("not worn ahead of 2", ruled(o), 3, -1);
        o.note(3, 0, 1);
        dueRow("none, and RULE 2", ruled(o), 2, -1);
        o.note(-1, 0, 0);
        o.note(3, 0, 0);
        dueRow("RULE 0 alone", ruled(o), 1, 0);
        o.note(-1, 0, 0);
        o.note(3, 0, 3);
        dueRow("RULE 1 alone", ruled(o), 1, 1);
    }

    // "at the begin of the n-th MOMENT of all a part was worn so much.": of each of the parts
    static void ruledByEachPart() {
        OneAnvil o = of("smithy 1 30 99;smith 10;smith 10;smith 10;job 0 face 9 10 0;job 1 beak 9 10 0;job 2 heel 9 10 0",
            "strike 1", "strike 1 if smith=1", "strike 1 if smith=2");
        // Worn at 2: by none 1 1 1, by RULE 0 2 2 2, by RULE 1 0 2 0, by RULE 2 0 0 2.
        int[][] notes = {{0, 0}, {1, 2}, {2, 0}, {1, 0}, {2, 2}};
        int[][] want = {{2, 1}, {1, 1}, {1, 1}, {0, -2}, {0, -2}};
        for (int k = 0; k < notes.length; k++) {
            due("NOTE", o.note(2, notes[k][0], notes[k][1]), k + 1);
            dueRow("by " + (k + 1) + " NOTES", ruled(o), want[k]);
        }
        o.note(-1, 0, 0);
        o.note(2, 2, 2);
        dueRow("the heel", ruled(o), 2, 0);
        o.note(2, 1, 0);
        dueRow("and the beak", ruled(o), 1, 2);
    }

    // "(none ahead of 0, told as NONE)."
    static void ruledNoneAheadOf0() {
        OneAnvil o = of(LONE, "strike hot", "strike hot");
        dueRow("none ahead of 0", ruled(o), 3, -1);
        OneAnvil p = of(LONE, "strike 1", "strike 0", "strike 0");
        p.note(9, 0, 0);
        dueRow("1 ahead of 2", ruled(p), 2, 1);
    }

    // "from the begin on, all as the text told it,": ACTS and the RULE IN FORCE are not heeded
    static void ruledFromTheBeginOn() {
        OneAnvil o = of(LONE + ";part 0 7", "strike 0");
        o.force(0);
        go(o, 2);
        o.mend(0);
        o.quench(0);
        o.note(0, 0, 7);
        o.note(3, 0, 8);
        dueRow("as told", ruled(o), 1, -1);
        o.note(-1, 0, 0);
        o.note(2, 0, 3);
        dueRow("not as MENDED", ruled(o), 0, -2);
    }

    // "at the begin of the n-th MOMENT of all (0 to 99)": the first and the last of them
    static void ruledAtTheFirstAndTheLast() {
        OneAnvil o = of(LONE, "strike moment/97", "strike moment/98", "strike moment/99");
        o.note(99, 0, 1);
        dueRow("worn in 98 alone", ruled(o), 1, 1);
        o.note(-1, 0, 0);
        o.note(99, 0, 2);
        dueRow("in 97 and 98", ruled(o), 1, 0);
        o.note(-1, 0, 0);
        o.note(0, 0, 0);
        dueRow("0", ruled(o), 4, -1);
        o.note(0, 0, 1);
        dueRow("0, not so", ruled(o), 0, -2);
    }

    // "RULED what 0: how many, 1: the first (NONE: none; -2: there is none such)."
    static void ruledByNoneSuch() {
        OneAnvil o = of(LONE, "strike 1");
        o.note(50, 2, 1);
        dueRow("none such", ruled(o), 0, -2);
        OneAnvil p = of(LONE, "strike 0", "strike 0", "strike 0", "strike 0", "strike 0", "strike 0");
        dueRow("all seven", ruled(p), 7, -1);
        p.note(9, 0, 0);
        dueRow("six", ruled(p), 6, 0);
    }

    // "-3 for others, or without a SMITHY."
    static void ruledForOthers() {
        OneAnvil o = of(LONE);
        refused(o, -3, () -> o.ruled(2), () -> o.ruled(-1), () -> o.ruled(FAR_ABOVE), () -> o.ruled(FAR_BELOW));
        OneAnvil none = new OneAnvil();
        refused(none, -3, () -> none.ruled(0), () -> none.ruled(1), () -> none.ruled(2));
    }

    // ---- Promise 26: look

    // "LOOK at the n-th MOMENT: the part by which these part best: the most alike are fewest,"
    static void lookWhereTheyPartBest() {
        OneAnvil o = of("smithy 1 30 99;smith 10;smith 10;smith 10;job 0 heel 9 10 0;job 1 beak 9 10 0",
            "strike 1 if smith=0", "strike 1 if smith=1;strike hot", "strike 1");
        // Worn at 1: face 0 0 0 0, beak 0 0 1 1, heel 0 1 0 1; at 2: beak 1 0 2 2, heel 1 2 1 2.
        dueRow("at 1", look(o, 1), 1, 2);
        dueRow("at 2: beak and heel are alike as good", look(o, 2), 1, 2);
        OneAnvil p = of("smithy 1 30 99;smith 10;smith 10;job 0 heel 9 10 0;job 1 face 9 10 0", "strike 1 if smith=0", "strike 0");
        // Worn at 2: face 1 0 0, heel 1 2 0.
        dueRow("the heel", look(p, 2), 2, 1);
    }

    // "of several the least; how many."
    static void lookTheLeastOfSeveral() {
        OneAnvil o = of(LONE, "strike 1", "strike 0");
        dueRow("all alike at 0", look(o, 0), 0, 3);
        dueRow("two alike at 1", look(o, 1), 0, 2);
        dueRow("each for itself at 3", look(o, 3), 0, 1);
        dueRow("none alone", look(of(LONE), 3), 0, 1);
        OneAnvil p = of("smithy 1 30 99;smith 10;smith 10;job 0 heel 9 10 0;job 1 beak 9 10 0", "strike 1");
        dueRow("beak ahead of heel", look(p, 1), 1, 1);
    }

    // "LOOK ..: the part by which these part best": these, by which all NOTES are so
    static void lookAmongThoseThatAreSo() {
        OneAnvil o = of(LONE, "strike 1", "strike 0");
        o.note(2, 0, 0);
        dueRow("none and RULE 1, at 2", look(o, 2), 0, 2);
        dueRow("at 3", look(o, 3), 0, 1);
        o.note(99, 0, 0);
        dueRow("RULE 1 alone; the NOTE lies behind", look(o, 3), 0, 1);
        dueRow("at 0", look(o, 0), 0, 1);
    }

    // "LOOK at the n-th MOMENT (0 to 99)"
    static void lookFrom0To99() {
        OneAnvil o = of(LONE, "strike moment/98", "strike moment/99", "strike 0");
        dueRow("98", look(o, 98), 0, 3);
        dueRow("99", look(o, 99), 0, 2);
        refused(o, -1, () -> o.look(100, 0), () -> o.look(-1, 0), () -> o.look(FAR_ABOVE, 0), () -> o.look(FAR_BELOW, 1));
    }

    // "-2: no RULE is so."
    static void lookWhereNoRuleIsSo() {
        OneAnvil o = of(LONE, "strike 1", "strike 0");
        o.note(0, 0, 1);
        dueRow("none", look(o, 0), -2, -2);
        dueRow("wherever", look(o, 99), -2, -2);
    }

    // "NONE without these, or a SMITHY."
    static void lookWithoutThese() {
        OneAnvil o = of(LONE);
        refused(o, -1, () -> o.look(0, 2), () -> o.look(0, -1), () -> o.look(99, FAR_ABOVE), () -> o.look(99, FAR_BELOW),
            () -> o.look(100, 2));
        o.note(0, 0, 1);
        refused(o, -1, () -> o.look(100, 0), () -> o.look(0, 2));
        OneAnvil none = new OneAnvil();
        refused(none, -1, () -> none.look(0, 0), () -> none.look(0, 1), () -> none.look(99, 2));
    }

    // ---- Promise 27: second

    // "SECOND: by how many MOMENTS ALL are done sooner, if there was a second face,"
    static void secondSideBySide() {
        OneAnvil o = of(TWO_ON_FACE);
        due("at first", o.second(), 2);
        go(o, 4);
        due("one is done", o.second(), 0);
        go(o, 9);
        due("all are done", o.second(), 0);
        due("no JOBS", of("smithy 1 20 9").second(), 0);
    }

    // "a JOB on the face (no weld) takes it,"
    static void secondTakesNoWeld() {
        String two = "smithy 1 30 99;smith 10;smith 10;job 0 face 2 10 0;job 1 ";
        due("a weld", of(two + "weld 2 10 0").second(), 0);
        due("a beak", of(two + "beak 2 10 0").second(), 0);
        due("a face behind a weld", of("smithy 1 30 99;smith 10;smith 10;job 0 weld 2 10 0;job 1 face 2 10 0").second(), 2);
        due("two beaks", of("smithy 1 30 99;smith 10;smith 10;job 0 beak 2 10 0;job 1 beak 2 10 0").second(), 0);
        due("three faces, two at once", of("smithy 1 30 99;smith 10;smith 10;smith 10;job 0 face 2 10 0;"
            + "job 1 face 2 10 0;job 2 face 2 10 0").second(), 2);
    }

    // "if the first one is taken, or SPLIT"
    static void secondWhereTheFirstIsSplit() {
        String lone = "smithy 1 30 3;smith 10;job 0 face 2 10 0;part 0 ";
        due("one BLOW ahead of it", of(lone + "1").second(), 0);
        due("behind the first BLOW", of(lone + "2").second(), 500 - 4);
        due("SPLIT", of(lone + "3").second(), 500 - 4);
    }

    // "as strong, worn 0:": it can be SPLIT, too
    static void secondCanBeSplit() {
        String lone = "smithy 1 30 2;smith 10;job 0 face ";
        due("2 on the first, 2 on the second", of(lone + "4 5 0").second(), 500 - 5);
        due("one more", of(lone + "5 5 0").second(), 0);
        OneAnvil o = of(lone + "3 5 0;part 0 2");
        due("SPLIT and 2", o.second(), 0);
        OneAnvil p = of(lone + "2 5 0;part 0 2");
        due("SPLIT and 2 for 2", p.second(), 500 - 3);
        go(p, 3);
        due("worn 0 from now on", p.second(), 500 - 2);
    }

    // "(both 500 at most, if they are not)."
    static void secondOf500AtMost() {
        OneAnvil o = by("smithy 9 20 999;smith 20;job 0 face 1 20 0", "strike moment/501", "strike moment/499");
        due("neither is", o.second(), 0);
        o.force(1);
        due("both in the 500th", o.second(), 0);
        OneAnvil p = by("smithy 9 20 1;smith 20;job 0 face 1 20 0;part 0 1", "strike moment/499", "strike moment/497");
        due("the second in the 500th", p.second(), 0);
        p.force(1);
        due("in the 498th", p.second(), 2);
        go(p, 2);
        due("MOMENTS from now on", p.second(), 4);
    }

    // "-100000 without a SMITHY."
    static void secondWithoutASmithy() {
        OneAnvil none = new OneAnvil();
        refused(none, -100000, () -> none.second());
    }

    // ---- Promise 28: seed

    // "x (0 to 2147483647; 0 at first)"; "x becomes a number: what it was;"
    static void seedFrom0ToTheMost() {
        OneAnvil o = new OneAnvil();
        due("0 at first", o.seed(FAR_ABOVE), 0);
        due("the most", o.seed(0), FAR_ABOVE);
        due("the least", o.seed(1), 0);
        due("count", o.count(13), 1);
    }

    // "NONE, and nothing happens, below 0."
    static void seedBelow0() {
        OneAnvil o = new OneAnvil();
        o.seed(7);
        refused(o, -1, () -> o.seed(-1), () -> o.seed(FAR_BELOW));
        due("as it was", o.seed(7), 7);
    }

    // ---- Promise 29: days

    // HOT at HEAT 1, and HEAT comes in every MOMENT without p: all BLOWS are done from 1 on, if it came in 0.
    private static final String EASY = "smithy 1 99 999;smith 20;job 0 face 30 1 0";

    // "x .. becomes x * 1103515245 + 12345, of 2147483648 the rest; a DRAW is x / 65536."
    static void daysByDraws() {
        OneAnvil o = of(EASY);
        // The first DRAWS mod 100 of x 0, 1, 2147483647 are 0, 38, 29: below p no HEAT, and no BLOW in the 2nd MOMENT.
        int[] x = {0, 1, FAR_ABOVE};
        int[] draw = {0, 38, 29};
        for (int k = 0; k < 3; k++) {
            o.seed(x[k]);
            due("p " + draw[k], o.days(1, 2, draw[k], 0), 1);
            due("p " + (draw[k] + 1), o.days(1, 2, draw[k] + 1, 0), 0);
        }
    }

    // "becomes x * 1103515245 + 12345, of 2147483648 the rest; a DRAW is x / 65536.": also far along the row
    static void daysByManyDraws() {
        OneAnvil o = of("smithy 1 20 999;smith 20;smith 9;smith 5;job 0 face 1 50 0;job 1 beak 1 50 0;job 2 heel 1 50 0");
        int[] x = {0, 1, 20261119, FAR_ABOVE};
        int[] p = {50, 33, 77, 5};
        for (int k = 0; k < x.length; k++) {
            o.seed(x[k]);
            due("x " + x[k], o.days(10, 99, p[k], 1), burnt(x[k], p[k]));
        }
    }

    /** How often three who only heat are BURNT in 10 days of 99 MOMENTS. */
    private static int burnt(long x, int p) {
        int sum = 0;
        int[] quick = {20, 9, 5};
        for (int day = 0; day < 10; day++) {
            int[] heat = new int[3];
            for (int n = 0; n < 99; n++) {
                x = java.math.BigInteger.valueOf(x).multiply(java.math.BigInteger.valueOf(1103515245))
                    .add(java.math.BigInteger.valueOf(12345)).mod(java.math.BigInteger.valueOf(2147483648L)).longValue();
                for (int i = 0; i < 3 && x / 65536 % 100 >= p; i++) {
                    heat[i] += quick[i];
                    if (heat[i] > 20) sum++;
                    if (heat[i] > 20) heat[i] = 0;
                }
            }
        }
        return sum;
    }

    // "below p (0 to 100) no HEAT is got in it:"
    static void daysFrom0To100() {
        OneAnvil o = of(EASY);
        due("0: always HEAT", o.days(1, 20, 0, 0), 19);
        due("100: never", o.days(10, 99, 100, 0), 0);
        refused(o, -1, () -> o.days(1, 1, -1, 0), () -> o.days(1, 1, 101, 0), () -> o.days(1, 1, FAR_ABOVE, 0),
            () -> o.days(1, 1, FAR_BELOW, 0));
    }

    // "no HEAT is got in it": HEAT stays, nothing is BURNT; who strikes cools all the same
    static void daysWithoutHeat() {
        OneAnvil o = of("smithy 1 20 99;smith 20;smith 5;job 0 face 9 50 0;job 1 beak 30 5 0");
        go(o, 1);
        due("nothing is BURNT", o.days(1, 99, 100, 1), 0);
        due("HEAT 5 is HOT once", o.days(1, 99, 100, 0), 1);
        due("every day anew", o.days(10, 99, 100, 0), 10);
    }

    // "DAYS m times (1 to 10;"
    static void daysFrom1To10Times() {
        OneAnvil o = of(EASY);
        due("1", o.days(1, 2, 0, 0), 1);
        due("10", o.days(10, 2, 0, 0), 10);
        refused(o, -1, () -> o.days(0, 1, 0, 0), () -> o.days(11, 1, 0, 0), () -> o.days(-1, 1, 0, 0),
            () -> o.days(FAR_ABOVE, 1, 0, 0), () -> o.days(FAR_BELOW, 1, 0, 0));
    }

    // "each from now on, as all is; x goes on)"
    static void daysFromNowOn() {
        OneAnvil o = of(EASY);
        go(o, 1);
        due("HEAT 20 of now, each", o.days(3, 2, 0, 0), 6);
        // DRAWS mod 100 of x 0: 0 68 | 88 17: by p 10 the first day alone begins without HEAT.
        OneAnvil p = of(EASY);
        dueRow("one day, two, p 10", new int[] {p.days(1, 2, 10, 0), p.days(2, 2, 10, 0)}, 0, 1);
        dueRow("p 90: the second one, too", new int[] {p.days(2, 2, 90, 0), p.days(2, 2, 89, 0), p.days(2, 2, 88, 0)}, 0, 0, 1);
    }

    // "n MOMENTS (1 to 99)"
    static void daysFrom1To99Moments() {
        OneAnvil o = of("smithy 1 20 999;smith 20;job 0 face 30 50 0");
        due("1", o.days(1, 1, 0, 1), 0);
        due("2", o.days(1, 2, 0, 1), 1);
        due("98", o.days(1, 98, 0, 1), 49);
        OneAnvil p = by("smithy 1 20 999;smith 20;job 0 face 30 20 0", "strike hot if moment=98", "strike hot if moment=97");
        dueRow("the 99th MOMENT, of an even HEAT", new int[] {p.days(1, 99, 0, 0), p.days(1, 99, 0, 1)}, 0, 49);
        p.force(1);
        dueRow("the 98th", new int[] {p.days(1, 97, 0, 0), p.days(1, 98, 0, 0), p.days(1, 99, 0, 1)}, 0, 1, 49);
        refused(p, -1, () -> p.days(1, 0, 0, 0), () -> p.days(1, 100, 0, 0), () -> p.days(1, -1, 0, 0),
            () -> p.days(1, FAR_ABOVE, 0, 0), () -> p.days(1, FAR_BELOW, 0, 0));
    }

    // "BLOWS done, how often one is BURNT, all together (nothing stays; x as it was)."
    static void daysLeaveNothing() {
        OneAnvil o = of("smithy 1 20 99;smith 20;smith 11;smith 5;job 0 face 2 50 0;job 1 beak 2 50 0;job 2 heel 1 5 0");
        o.seed(77);
        String before = seen(o);
        dueRow("of all SMITHS", new int[] {o.days(1, 4, 0, 0), o.days(1, 4, 0, 1), o.days(2, 4, 0, 0), o.days(2, 4, 0, 1)}, 1, 4, 2, 8);
        due("as it was", seen(o).equals(before) ? 1 : 0, 1);
    }

    // "NONE without these, or a SMITHY."
    static void daysWithoutThese() {
        OneAnvil o = of(EASY);
        refused(o, -1, () -> o.days(1, 1, 0, 2), () -> o.days(1, 1, 0, -1), () -> o.days(1, 1, 0, FAR_ABOVE),
            () -> o.days(1, 1, 0, FAR_BELOW), () -> o.days(0, 0, -1, 2));
        OneAnvil none = new OneAnvil();
        refused(none, -1, () -> none.days(1, 1, 0, 0), () -> none.days(10, 99, 100, 1));
    }

    // ---- Promise 30: count

    // "What 0: COOL, .. 14: bytes of the TAPE.": as told, and as it stands
    static void countOfEach() {
        OneAnvil o = of("smithy 3 40 7;smith 10;smith 20;job 0 face 1 10 5;job 1 beak 1 20 6;job 1 heel 1 1 1;part 0 6;part 2 9",
            "strike hot", "strike 0", "strike 1");
        o.force(2);
        o.force(0);
        go(o, 2);
        o.note(1, 1, 0);
        o.seed(123);
        o.feed(0, 0, 0, 0, 0);
        o.end(9);
        int[] want = {3, 40, 7, 2, 3, 3, 0, 2, 3, 11, 5, 1, 2, 123, 9};
        for (int k = 0; k < want.length; k++) due("count " + k, o.count(k), want[k]);
    }

    // "6: the RULE IN FORCE (NONE)"
    static void countOfTheRuleInForce() {
        OneAnvil o = by(LONE, "strike 0");
        due("0", o.count(6), 0);
        o.force(-1);
        due("none", o.count(6), -1);
    }

    // "8: JOBS done, as bits, 9: PAY earned by all, 10: parts that are SPLIT, as bits": all of them
    static void countOfAllAsBits() {
        String text = "smithy 1 20 2;smith 5" + times(";job 0 heel 1 5 50", 8);
        OneAnvil o = of(text + ";part 0 2;part 1 3");
        go(o, 2);
        dueRow("one", new int[] {o.count(8), o.count(9), o.count(10)}, 1, 50, 3);
        go(o, 2);
        dueRow("two", new int[] {o.count(8), o.count(9), o.count(10)}, 3, 100, 7);
        OneAnvil p = of(text.replace("smithy 1 20 2", "smithy 1 20 99"));
        go(p, 15);
        dueRow("but the last", new int[] {p.count(8), p.count(9)}, 127, 350);
        go(p, 1);
        dueRow("all", new int[] {p.count(8), p.count(9)}, 255, 400);
    }

    // "NONE for others."
    static void countForOthers() {
        OneAnvil o = of(LONE);
        refused(o, -1, () -> o.count(15), () -> o.count(-1), () -> o.count(FAR_ABOVE), () -> o.count(FAR_BELOW));
        OneAnvil none = new OneAnvil();
        refused(none, -1, () -> none.count(15), () -> none.count(-1));
    }

    // ---- Promise 31: image

    // "An IMAGE is made (also where nothing was told yet): MOMENT;"
    static void imageOfNothing() {
        OneAnvil o = new OneAnvil();
        due("MOMENT", o.image(0), 0);
        String fresh = seen(o);
        smithy(o, THREE);
        go(o, 2);
        due("MOMENT", o.image(1), 2);
        due("back to nothing", o.back(0), 0);
        due("as it was", seen(o).equals(fresh) ? 1 : 0, 1);
        refused(o, -1, () -> o.moment());
        due("and to something", o.back(1), 2);
        due("JOBS", o.count(4), 4);
    }

    // "IMAGES 0 to 3"; "NONE for another k."
    static void imagesFrom0To3() {
        OneAnvil o = of(LONE);
        for (int k = 0; k < 4; k++) {
            due("IMAGE " + k, o.image(k), k);
            o.moment();
        }
        refused(o, -1, () -> o.image(4), () -> o.image(-1), () -> o.image(FAR_ABOVE), () -> o.image(FAR_BELOW));
        for (int k = 3; k >= 0; k--) due("back to " + k, o.back(k), k);
    }

    // "An IMAGE is made": in place of the one there was; nothing else changes by it
    static void imageInPlaceOfAnother() {
        OneAnvil o = of(THREE);
        go(o, 2);
        String before = seen(o);
        due("MOMENT", o.image(2), 2);
        due("nothing else", seen(o).equals(before) ? 1 : 0, 1);
        go(o, 3);
        due("anew", o.image(2), 5);
        due("UNDO, still", o.undo(), 4);
        due("the new one", o.back(2), 5);
    }

    // ---- Promise 32: back

    // "IMAGES ..: all but the TAPE and the RULES, as it is (the RULE IN FORCE, too); gone back to, it is as it was"
    static void backToAllAsItWas() {
        OneAnvil o = by(THREE, "strike hot", "strike 0");
        go(o, 3);
        o.aside(0);
        o.note(3, 0, 1);
        o.note(6, 1, 5);
        o.seed(55);
        o.image(0);
        String then = seen(o);
        o.force(1);
        o.seed(56);
        o.note(-1, 0, 0);
        go(o, 9);
        smithy(o, LONE);
        go(o, 1);
        for (int k = 0; k < 4; k++) o.note(5, 2, 1);
        due("MOMENT", o.back(0), 3);
        due("but for what can be UNDONE", seen(o).equals(then.replaceFirst(" 4 55 0;", " 0 55 0;")) ? 1 : 0, 1);
        dueRow("the NOTES of then", ruled(o), 2, -1);
        due("the order of then", o.smith(0, 1), 3);
    }

    // "all but the TAPE and the RULES": these are as they are
    static void backLeavesTapeAndRules() {
        OneAnvil o = of(LONE, "strike 0");
        o.image(0);
        rule(o, "strike 1");
        o.force(1);
        o.feed(0, 0, 0, 0, 0);
        o.back(0);
        dueRow("RULES, none IN FORCE, TAPE", new int[] {o.count(5), o.count(6), o.count(14)}, 2, -1, 20);
        due("RULE 1 still", o.force(1), -1);
        o.moment();
        due("as told", o.smith(0, 8), 1);
    }

    // "(these stay;": IMAGES stay, whatever is gone back to, and as they were made
    static void backLeavesTheImages() {
        OneAnvil o = of(LONE);
        o.image(0);
        go(o, 2);
        o.image(1);
        due("0", o.back(0), 0);
        go(o, 3);
        o.mend(0);
        due("1", o.back(1), 2);
        due("its HEAT", o.smith(0, 0), 20);
        go(o, 1);
        due("0 again", o.back(0), 0);
        due("its HEAT", o.smith(0, 0), 0);
        due("1 again", o.back(1), 2);
        due("its HEAT", o.smith(0, 0), 20);
    }

    // "nothing can be UNDONE then)."
    static void backCantBeUndone() {
        OneAnvil o = of(LONE);
        go(o, 3);
        o.image(0);
        go(o, 2);
        o.back(0);
        due("ACTS", o.count(12), 0);
        refused(o, -1, () -> o.undo());
        go(o, 1);
        due("but what comes then", o.undo(), 0);
        due("MOMENT", o.count(7), 3);
        refused(o, -1, () -> o.undo());
    }

    // "All is as in an IMAGE: MOMENT; NONE, and nothing happens, if it was never made, or without it."
    static void backWithoutAnImage() {
        OneAnvil o = of(LONE);
        go(o, 2);
        o.image(2);
        go(o, 1);
        refused(o, -1, () -> o.back(0), () -> o.back(1), () -> o.back(3), () -> o.back(4), () -> o.back(-1),
            () -> o.back(FAR_ABOVE), () -> o.back(FAR_BELOW));
        due("nothing happened", o.undo(), 2);
        due("the one that was", o.back(2), 2);
        OneAnvil none = new OneAnvil();
        refused(none, -1, () -> none.back(0));
    }

    // ---- "An object is used for at most 512 calls after it has been made"

    // All 512 of them answer as they should: 5 to tell it, 500 MOMENTS, 7 more.
    static void anObjectOf512Calls() {
        OneAnvil o = new OneAnvil();
        o.feed(0x736d6974, 0x68792031, 0x20323020, 0x3939393b, 0x736d6974);
        o.feed(0x68203230, 0x3b6a6f62, 0x20302066, 0x61636520, 0x31203530);
        o.feed(0x20300000, 0, 0, 0, 0);
        due("TAPE", o.end(42), 42);
        due("JOBS", o.smithy(), 1);
        for (int k = 0; k < 500; k++) due("MOMENT " + k, o.moment(), 0);
        dueRow("BURNT in every second one", new int[] {o.smith(0, 6), o.smith(0, 0), o.count(7), o.count(12)}, 250, 0, 500, 20);
        dueRow("asked", new int[] {o.ahead(0, 199, 0), o.ready(0), o.all()}, 20, -2, -2);
    }
}
