/** Each promise of the document by examples that were worked out by hand. */
public final class Promises extends Bench {
    /** Of its MOMENTS 0 to 7: BLOWS 0 0 2 2 1 1 2 0; all is done at 7; the beak splits in 6. */
    private static final String THREE = "smithy 2 30 6;smith 10;smith 8;smith 15;job 0 face 3 15 5;"
        + "job 1 beak 2 12 7;job 2 weld 2 20 9;job 0 heel 1 5 3;part 1 2";
    /** One that strikes at HEATS 20 18 16, then heats. */
    private static final String LONE = "smithy 2 30 99;smith 10;job 0 face 30 15 4";
    private static final String TWO_ON_FACE = "smithy 1 30 99;smith 10;smith 10;job 0 face 2 10 0;job 1 face 2 10 0";

    public static void main(String[] args) {
        runAll(Promises.class);
    }

    // ---- 1 to 6: what is told

    private static void newObject() {
        OneAnvil o = new OneAnvil();
        due("NONE", OneAnvil.NONE, -1);
        int[] want = {0, 0, 0, 0, 0, 0, -1, 0, 0, 0, 0, 0, 0, 0, 0};
        for (int k = 0; k < want.length; k++) due("count " + k, o.count(k), want[k]);
        due("smith", o.smith(0, 0), -2);
        due("job", o.job(0, 0), -2);
        due("worn", o.worn(0), -1);
        due("force", o.force(0), -2);
        due("moment", o.moment(), -1);
    }

    private static void feed() {
        OneAnvil o = new OneAnvil();
        for (int k = 1; k <= 20; k++) due("feed " + k, o.feed(1, 2, 3, 4, 5), 20 * k);
        due("401 and more", o.feed(1, 2, 3, 4, 5), -1);
        due("none came", o.count(14), 400);
        o.end(381);
        due("at 381", o.feed(0, 0, 0, 0, 0), -1);
        o.end(380);
        due("at 380", o.feed(0, 0, 0, 0, 0), 400);
        OneAnvil p = new OneAnvil();
        p.feed(0x736d6974, 0x68792031, 0x20323020, 0x31202020, 0x20202020);
        due("the highest byte first", p.smithy(), 0);
        due("cool", p.count(0), 1);
        OneAnvil q = new OneAnvil();
        q.feed(0x736d6974, 0x68792031, 0x20323020, 0x312020e9, 0x20202020);
        due("a byte above 127", q.smithy(), fault(15, 0));
    }

    private static void end() {
        OneAnvil o = new OneAnvil();
        due("0 of none", o.end(0), 0);
        due("1 of none", o.end(1), -1);
        o.feed(1, 2, 3, 4, 5);
        due("too many", o.end(21), -1);
        due("below 0", o.end(-1), -1);
        due("far below 0", o.end(FAR_BELOW), -1);
        due("nothing happened", o.count(14), 20);
        due("as many", o.end(20), 20);
        due("fewer", o.end(7), 7);
        due("fewer stay", o.count(14), 7);
    }

    private static void smithy() {
        OneAnvil o = of(LONE, "strike hot");
        o.force(0);
        o.seed(9);
        o.moment();
        o.note(1, 0, 0);
        o.image(2);
        tell(o, THREE);
        due("JOBS", o.smithy(), 4);
        due("TAPE is empty", o.count(14), 0);
        due("MOMENT", o.count(7), 0);
        due("NOTES", o.count(11), 0);
        due("ACTS", o.count(12), 0);
        due("undo", o.undo(), -1);
        due("RULE IN FORCE", o.count(6), 0);
        due("x", o.count(13), 9);
        due("worn already", o.worn(1), 2);
        due("worn, not told", o.worn(0), 0);
        due("IMAGE stays", o.back(2), 1);
        due("its smithy", o.count(2), 99);
        tell(o, "smithy 1 20 1;");
        due("at fault", o.smithy(), fault(14, 0));
        due("TAPE is empty, too", o.count(14), 0);
        due("all else stays", o.count(7) * 10 + o.count(11), 11);
        due("strength stays", o.count(2), 99);
        tell(o, "smithy1 20 1;smith3;job0face2 1 0 ;  part 0 7;part 0 3");
        due("few blanks", o.smithy(), 1);
        due("the last told", o.worn(0), 3);
        tell(o, "smithy 1 20 00001");
        due("five digits", o.smithy(), 0);
        due("worn by the text before no more", o.worn(0), 0);
        tell(o, "smithy 1 20 1" + times(";part 0 1", 39));
        due("40 CLAUSES", o.smithy(), 0);
        tell(o, "smithy 9 99 999;smith 20;smith 1;smith 5" + times(";job 2 weld 30 50 50", 8));
        due("8 JOBS", o.smithy(), 8);
        OneAnvil p = of(THREE, "strike 1", "strike 0");
        go(p, 7);
        tell(p, THREE);
        p.smithy();
        p.aside(0);
        p.force(1);
        go(p, 4);
        p.force(0);
        go(p, 1);
        tell(p, THREE);
        p.smithy();
        int[][] want = {{0, 0, 0, 0, 0, 0, 0, 10, 0}, {0, 1, 0, 0, 0, 0, 0, 8, 0}, {0, 2, 0, 0, 0, 0, 0, 15, 0}};
        for (int i = 0; i < 3; i++) {
            for (int k = 0; k < 9; k++) due("anew, smith " + i + " " + k, p.smith(i, k), want[i][k]);
        }
        for (int j = 0; j < 4; j++) due("anew, job " + j, p.job(j, 5), -1);
        due("anew, done", p.count(8), 0);
    }

    private static void smithyFault(String text, int place, int code) {
        OneAnvil o = new OneAnvil();
        tell(o, text);
        due("\"" + text + "\"", o.smithy(), fault(place, code));
    }

    private static void smithyFaults() {
        String one = "smithy 1 20 1;";
        String two = one + "smith 1;";
        smithyFault("", 0, 0);
        smithyFault("   ", 3, 0);
        smithyFault("smithys 1", 0, 0);
        smithyFault("Smithy 1 20 1", 0, 0);
        smithyFault("smithy", 6, 0);
        smithyFault("smithy 1 20", 11, 0);
        smithyFault("smithy 1 20 ", 12, 0);
        smithyFault("smithy 1 x 3", 9, 0);
        smithyFault("smithy 0 50 9", 7, 1);
        smithyFault("smithy 10 50 9", 7, 1);
        smithyFault("smithy 1 19 9", 9, 1);
        smithyFault("smithy 1 100 9", 9, 1);
        smithyFault("smithy 1 20 0", 12, 1);
        smithyFault("smithy 1 20 1000", 12, 1);
        smithyFault("smithy 1 20 000001", 12, 1);
        smithyFault(one, 14, 0);
        smithyFault("smithy 1 20 1 1", 14, 0);
        smithyFault("smithy 1 20 1\0", 13, 0);
        smithyFault("smith 5", 0, 4);
        smithyFault(one + "smithy 1 20 1", 14, 4);
        smithyFault(one + "smith 0", 20, 1);
        smithyFault(one + "smith 21", 20, 1);
        smithyFault(one + "job 0 face 1 1 0", 18, 1);
        smithyFault(one + "job 0 face 1 1 0;smith 1", 18, 1);
        smithyFault(two + "job 1 face 1 1 0", 26, 1);
        smithyFault(two + "job 0 side 1 1 0", 28, 0);
        smithyFault(two + "job 0", 27, 0);
        smithyFault(two + "job 0;part 0 1", 27, 0);
        smithyFault(two + "job 0 3 1 1 0", 28, 0);
        smithyFault(two + "job 0 face 0 1 0", 33, 1);
        smithyFault(two + "job 0 face 31 1 0", 33, 1);
        smithyFault(two + "job 0 face 1 0 0", 35, 1);
        smithyFault(two + "job 0 face 1 51 0", 35, 1);
        smithyFault(two + "job 0 face 1 1 51", 37, 1);
        smithyFault(two + "job 0 face 1 1", 36, 0);
        smithyFault(one + "part 3 0", 19, 1);
        smithyFault(one + "part 0 1000", 21, 1);
        smithyFault(one + times("smith 1;", 3) + " smith 1", 39, 4);
        smithyFault(two + times("job 0 face 1 1 0;", 8) + "job 9", 22 + 8 * 17, 4);
        smithyFault("smithy 1 20 9" + times(";part 0 1", 40), 13 + 39 * 9 + 1, 4);
        smithyFault("smithy 1 20 9" + times(";part 0 1", 39) + ";party 1", 13 + 39 * 9 + 1, 0);
        smithyFault("smithy 1 20 9" + times(";part 0 1", 39) + ";", 13 + 39 * 9 + 1, 0);
    }

    private static void rule() {
        OneAnvil o = new OneAnvil();
        tell(o, "strike");
        due("at fault", o.rule(), fault(6, 0));
        due("TAPE is empty", o.count(14), 0);
        for (int k = 0; k < 6; k++) {
            tell(o, "strike " + k);
            due("number", o.rule(), k);
            due("TAPE is empty", o.count(14), 0);
        }
        tell(o, "strike 7");
        due("a seventh", o.rule(), -1);
        due("nothing happens", o.count(14), 8);
        due("RULES", o.count(5), 6);
        OneAnvil p = new OneAnvil();
        tell(p, times("strike 1;", 11) + "strike 1");
        due("12 CLAUSES", p.rule(), 0);
        tell(p, "strike 1" + times("+1", 57) + " if 1");
        due("an end", p.rule(), fault(127, 0));
        tell(p, "strike 1" + times("+1", 56) + " if 1=1");
        due("60", p.rule(), 1);
        tell(p, "strike 1 if " + times("[not ", 5) + "hot=1" + times("]", 5));
        due("10 deep", p.rule(), 2);
        tell(p, "strike 1 if " + times("[", 10) + "hot=1" + times("]", 10) + "and" + times(" not", 10) + " 1=1");
        due("twice 10 deep", p.rule(), 3);
        tell(p, " strike99999if[heat<=need or not burn>9]and hot=1 ; strike  0 ");
        due("few blanks", p.rule(), 4);
    }

    private static void ruleFault(String text, int place, int code) {
        OneAnvil o = new OneAnvil();
        tell(o, text);
        due("\"" + text + "\"", o.rule(), fault(place, code));
    }

    private static void ruleFaults() {
        ruleFault("", 0, 0);
        ruleFault("strikes 1", 0, 0);
        ruleFault("smith 1", 0, 0);
        ruleFault("strike x", 7, 0);
        ruleFault("strike if", 7, 0);
        ruleFault("strike -1", 7, 0);
        ruleFault("strike [1]", 7, 0);
        ruleFault("strike 1 2", 9, 0);
        ruleFault("strike 1 hot", 9, 0);
        ruleFault("strike 1;", 9, 0);
        ruleFault("strike 1 ;  ", 12, 0);
        ruleFault("strike 5 %", 10, 0);
        ruleFault("strike 123456", 7, 1);
        ruleFault("strike 1 123456", 9, 0);
        ruleFault("strike hoter", 7, 0);
        ruleFault("strike 1 if", 11, 0);
        ruleFault("strike 1 if 1", 13, 0);
        ruleFault("strike 1 if 1 2", 14, 0);
        ruleFault("strike 1 if heat hot", 17, 0);
        ruleFault("strike 1 if hot = 1]", 19, 0);
        ruleFault("strike 1 if [hot = 1", 20, 0);
        ruleFault("strike 1 if [hot = 1;strike 1", 20, 0);
        ruleFault("strike 1 if hot < = 1", 18, 0);
        ruleFault("strike 1 if hot =< 1", 17, 0);
        ruleFault("strike 1 if hot <> 1", 17, 0);
        ruleFault("strike 1 if hot = 1 = 1", 20, 0);
        ruleFault("strike 1 if hot = 1 not 1=1", 20, 0);
        ruleFault("strike 1 if hot = not 1=1", 18, 0);
        ruleFault("strike 1 if hot = 1 if", 20, 0);
        ruleFault("strike 1 if 1=1 and", 19, 0);
        ruleFault("strike 1 if " + times("[", 11) + "hot=1", 22, 2);
        ruleFault("strike 1 if " + times("not ", 11) + "hot=1", 52, 2);
        ruleFault("strike 1 if " + times("not [", 5) + "not hot=1", 37, 2);
        ruleFault("strike 1" + times("+1", 60), 127, 3);
        ruleFault("strike 1" + times("+1", 59) + "+x", 127, 0);
        ruleFault("strike 1" + times("+1", 59) + "+123456", 127, 1);
        ruleFault("strike 1" + times("+1", 57) + " if 1=1", 128, 3);
        ruleFault("strike 1" + times("+1", 58) + " if 1=1", 129, 3);
        ruleFault("strike 1" + times("+1", 58) + " if 1!1", 129, 0);
        ruleFault(times("strike 1;", 12) + "strike 1", 108, 4);
        ruleFault(times("strike 1;", 12) + "strikes 1", 108, 0);
        ruleFault(times("strike 1;", 12), 108, 0);
    }

    /** Whether a SMITH strikes by a RULE, one MOMENT of heating behind the begin. */
    private static void strikes(String rule, int smith, boolean want) {
        OneAnvil o = of("smithy 2 30 50;smith 10;smith 8;smith 15;job 0 face 3 15 5;job 1 weld 2 12 7;"
            + "job 2 weld 2 20 9;job 0 heel 1 5 3;part 1 7", rule);
        o.moment();
        o.force(0);
        int before = o.smith(smith, 0);
        o.moment();
        due(rule, o.smith(smith, 0) - before, want ? -2 : o.smith(smith, 7));
    }

    private static void ruleWords() {
        strikes("strike 1 if smith=0 and heat=10 and hot=0 and need=15 and left=3 and pay=5 and quick=10 and moment=1 "
            + "and worn=0 and rivals=2 and waits=0 and burn=20 and done=0", 0, true);
        strikes("strike 1 if smith=2 and worn=7 and rivals=2 and pay=9", 2, true);
        strikes("strike 2+3*4-14", 0, false);
        strikes("strike 2+3*4-13", 0, true);
        strikes("strike 20/3/2-2", 0, true);
        strikes("strike 10-3-7", 0, false);
        strikes("strike 17%5*2-3", 0, true);
        strikes("strike 7/0", 0, false);
        strikes("strike 7%hot", 0, false);
        strikes("strike 7%hot+1", 0, true);
        strikes("strike 0-1", 0, false);
        strikes("strike 99999*99999*99999*99999", 0, Math.multiplyExact(99999L, 99999L) * 99999L * 99999L > 0);
        strikes("strike 65536*65536*65536*32768", 0, false);
        strikes("strike 65536*65536*65536*32768-1", 0, true);
        strikes("strike 65536*65536*65536*49152%3", 0, false);
        strikes("strike 65536*65536*65536*49152%3+2", 0, true);
        strikes("strike 65536*65536*65536*49152/3*3-65536*65536*65536*49152", 0, true);
        strikes("strike 1 if 1=1 or 1=2 and 1=2", 0, true);
        strikes("strike 1 if [1=1 or 1=2] and 1=2", 0, false);
        strikes("strike 1 if not 1=1 or 1=1", 0, true);
        strikes("strike 1 if not [1=1 or 1=1]", 0, false);
        strikes("strike 1 if not not 1=1", 0, true);
        strikes("strike 1 if 1=2 or 1=1 or 1=2", 0, true);
        strikes("strike 1 if 1=2 and [1=1]", 0, false);
        strikes("strike 1 if 1=2 and [1=1 or 1=1]", 0, false);
        strikes("strike 1 if 2<3 and 3<=3 and 3=3 and 3>=3 and 4>3", 0, true);
        strikes("strike 1 if 3<3 or 4<=3 or 4=3 or 2>=3 or 3>3", 0, false);
        strikes("strike 0 if heat=10;strike 1", 0, false);
        strikes("strike 0 if heat=11;strike 1", 0, true);
        strikes("strike 1 if heat=11", 0, false);
        strikes("strike 1;strike 0", 0, true);
        OneAnvil o = of(TWO_ON_FACE, "strike 1 if smith=0;strike 1 if moment<3;strike waits-2",
            "strike 1 if smith=0;strike 1 if moment<3;strike waits-3");
        o.force(0);
        go(o, 4);
        due("waits 3", o.smith(1, 3), 4);
        o.undo();
        o.force(1);
        go(o, 1);
        due("waits 3, not more", o.smith(1, 0), 10);
        OneAnvil p = of(THREE, "strike hot if done=0", "strike 1 if smith=0 and rivals=1");
        p.force(0);
        due("done 1", p.ready(3), -2);
        due("done 0", p.ready(0), 5);
        p.force(1);
        go(p, 1);
        due("a beak is no face", p.smith(0, 8), 1);
    }

    private static void force() {
        OneAnvil o = of(LONE, "strike 0", "strike 1");
        due("was none", o.force(1), -1);
        due("was 1", o.force(0), 1);
        due("none such", o.force(2), -2);
        due("below NONE", o.force(-2), -2);
        due("nothing happened", o.count(6), 0);
        go(o, 3);
        due("RULE 0 heats", o.smith(0, 0), 30);
        due("was 0", o.force(-1), 0);
        due("without one", o.moment(), 1);
    }

    // ---- 7 to 14: acts

    private static void smith() {
        OneAnvil o = of(THREE);
        due("no job is hot yet", o.smith(0, 2), 0);
        go(o, 4);
        int[][] want = {{16, 0, 1, 0, 0, 0, 0, 10, 0}, {0, -1, 0, 0, 1, 7, 0, 8, 0}, {26, 2, 1, 2, 0, 0, 0, 15, 0}};
        for (int i = 0; i < 3; i++) {
            for (int k = 0; k < 9; k++) due("smith " + i + " " + k, o.smith(i, k), want[i][k]);
        }
        go(o, 3);
        due("PAY of two", o.smith(0, 5), 8);
        due("JOBS done", o.smith(0, 4), 2);
        OneAnvil h = of("smithy 1 30 9;smith 15;job 0 face 2 15 0");
        go(h, 1);
        due("HOT from it on", h.smith(0, 2), 1);
        due("no SMITH 3", o.smith(3, 0), -2);
        due("no SMITH -1", o.smith(-1, 0), -2);
        due("no what 9", o.smith(0, 9), -2);
        due("no what -1", o.smith(0, -1), -2);
        due("far out", o.smith(FAR_BELOW, FAR_BELOW), -2);
        OneAnvil p = of("smithy 1 20 99;smith 15;job 0 face 2 10 0;job 0 beak 2 10 0", "strike 0", "strike 1");
        go(p, 1);
        due("HEAT 15", p.smith(0, 0), 15);
        go(p, 1);
        due("a BLOW", p.job(0, 2), 1);
        p.force(0);
        go(p, 1);
        due("BURNT: HEAT", p.smith(0, 0), 0);
        due("BURNT: how often", p.smith(0, 6), 1);
        due("BURNT: BLOWS anew", p.job(0, 2), 2);
        p.force(1);
        go(p, 2);
        due("cold BLOWS", p.smith(0, 8), 2);
        due("cold: BLOWS to go", p.job(0, 2), 2);
        due("cold: worn", p.worn(0), 3);
    }

    private static void job() {
        OneAnvil o = of(THREE);
        go(o, 6);
        int[][] want = {{0, 0, 0, 15, 5, 5}, {1, 1, 0, 12, 7, 4}, {2, 3, 1, 20, 9, -1}, {0, 2, 1, 5, 3, -1}};
        for (int j = 0; j < 4; j++) {
            for (int k = 0; k < 6; k++) due("job " + j + " " + k, o.job(j, k), want[j][k]);
        }
        due("no JOB 4", o.job(4, 0), -2);
        due("no JOB -1", o.job(-1, 0), -2);
        due("no what 6", o.job(0, 6), -2);
        due("no what -1", o.job(0, -1), -2);
    }

    private static void worn() {
        OneAnvil o = of(THREE);
        due("beak at first", o.worn(1), 2);
        go(o, 7);
        due("face", o.worn(0), 5);
        due("beak", o.worn(1), 6);
        due("heel", o.worn(2), 1);
        due("no part 3", o.worn(3), -1);
        due("no part -1", o.worn(-1), -1);
    }

    private static void moment() {
        OneAnvil o = of(THREE);
        int[] blows = {0, 0, 2, 2, 1, 1, 2, 0};
        for (int k = 0; k < 8; k++) due("MOMENT " + k, o.moment(), blows[k]);
        due("MOMENT", o.count(7), 8);
        o.undo();
        o.undo();
        due("who has a turn waits no more", o.smith(2, 3), 0);
        OneAnvil p = of(TWO_ON_FACE);
        go(p, 2);
        due("who waits cools", p.smith(1, 0), 9);
        due("who waits", p.smith(1, 3), 1);
        go(p, 1);
        due("who heats waits no more", p.smith(1, 3), 0);
        OneAnvil q = of("smithy 9 30 2;smith 10;smith 12;job 0 face 9 10 0;job 1 beak 9 10 0;part 0 2;part 1 1");
        go(q, 1);
        due("one on a SPLIT part", q.moment(), 1);
        due("waits", q.smith(0, 3), 1);
        due("cools to 0 at least", q.smith(0, 0), 1);
        due("SPLIT by it", q.count(10), 3);
        OneAnvil r = of("smithy 1 20 9;part 0 9");
        due("without SMITHS", r.moment(), 0);
        due("goes on", r.count(7), 1);
    }

    private static void quench() {
        OneAnvil o = of(THREE);
        due("cold", o.quench(0), -1);
        go(o, 1);
        due("no SMITH 3", o.quench(3), -1);
        due("no SMITH -1", o.quench(-1), -1);
        due("ACTS", o.count(12), 1);
        due("HEAT it was", o.quench(2), 15);
        due("HEAT", o.smith(2, 0), 0);
        due("others", o.smith(0, 0), 10);
        due("an ACT", o.count(12), 2);
        due("again", o.quench(2), -1);
    }

    private static void mend() {
        OneAnvil o = of("smithy 1 20 9;part 1 7");
        due("half, downwards", o.mend(1), 3);
        due("again", o.mend(1), 1);
        due("again", o.mend(1), 0);
        due("worn 0", o.mend(1), -1);
        due("worn 0, too", o.mend(0), -1);
        due("no part 3", o.mend(3), -1);
        due("no part -1", o.mend(-1), -1);
        due("ACTS", o.count(12), 3);
        due("without a SMITHY", new OneAnvil().mend(0), -1);
    }

    private static void aside() {
        OneAnvil o = of("smithy 1 30 99;smith 9;smith 9;job 0 face 2 5 0;job 0 beak 2 5 0;job 1 heel 1 5 0;job 0 heel 3 5 0");
        go(o, 2);
        due("BLOWS", o.job(0, 2), 1);
        due("the next", o.aside(0), 1);
        due("HEAT", o.smith(0, 0), 0);
        due("BLOWS stay", o.job(0, 2), 1);
        due("JOB", o.smith(0, 1), 1);
        due("the next", o.aside(0), 3);
        due("the first again", o.aside(0), 0);
        due("the second again", o.aside(0), 1);
        due("JOB 1", o.smith(1, 1), -1);
        due("fewer than two", o.aside(1), -1);
        due("no SMITH 2", o.aside(2), -1);
        due("no SMITH -1", o.aside(-1), -1);
        due("ACTS", o.count(12), 6);
        go(o, 3);
        due("JOB 1 is done", o.smith(0, 1), 3);
        due("done ones don't come", o.aside(0), 0);
        due("nor then", o.aside(0), 3);
    }

    private static void undo() {
        OneAnvil o = of(THREE);
        due("none can", o.undo(), -1);
        go(o, 3);
        o.note(0, 0, 0);
        o.seed(5);
        o.mend(1);
        o.aside(0);
        o.quench(2);
        due("ACTS", o.count(12), 6);
        due("quench", o.undo(), 5);
        due("HEAT", o.smith(2, 0), 28);
        due("aside", o.undo(), 4);
        due("JOB", o.smith(0, 1), 0);
        due("its HEAT", o.smith(0, 0), 18);
        due("mend", o.undo(), 3);
        due("worn", o.worn(1), 3);
        due("moment", o.undo(), 2);
        due("MOMENT", o.count(7), 2);
        due("waits", o.smith(2, 3), 0);
        due("x stays", o.count(13), 5);
        due("NOTES stay", o.count(11), 1);
        go(o, 25);
        due("20 at most", o.count(12), 20);
        for (int k = 19; k >= 0; k--) due("one of 20", o.undo(), k);
        due("no more", o.undo(), -1);
        due("MOMENT 7", o.count(7), 7);
        OneAnvil p = of(THREE, "strike 1", "strike 0");
        p.force(0);
        go(p, 1);
        p.force(1);
        go(p, 4);
        due("BURNT", p.smith(0, 6), 1);
        due("undone", p.undo(), 4);
        due("not BURNT yet", p.smith(0, 6), 0);
        go(p, 1);
        for (int k = 0; k < 5; k++) p.undo();
        due("no cold BLOW yet", p.smith(0, 8), 0);
        p.force(-1);
        go(p, 5);
        due("done", p.job(0, 5), 5);
        p.undo();
        due("not done yet", p.job(0, 5), -1);
        due("nor as bits", p.count(8), 2);
    }

    // ---- 15 to 23: what would be

    private static void ahead() {
        OneAnvil o = of(THREE, "strike 0");
        due("now", o.ahead(0, 0, 1), 3);
        due("HEAT at 4", o.ahead(2, 4, 0), 26);
        due("BLOWS to go at 5", o.ahead(0, 5, 1), 1);
        due("BLOWS to go at 6 of the weld", o.ahead(2, 6, 1), 1);
        due("JOBS done at 5", o.ahead(0, 5, 2), 1);
        due("JOBS done at 200", o.ahead(0, 200, 2), 2);
        due("no JOB", o.ahead(0, 7, 1), 0);
        due("nothing changed", o.count(7) + o.smith(0, 0), 0);
        due("201", o.ahead(0, 201, 0), -1);
        due("-1", o.ahead(0, -1, 0), -1);
        due("no SMITH", o.ahead(3, 1, 0), -1);
        due("no what 3", o.ahead(0, 1, 3), -1);
        due("no what -1", o.ahead(0, 1, -1), -1);
        o.force(0);
        due("by the RULE", o.ahead(0, 3, 0), 30);
    }

    private static void ready() {
        OneAnvil o = of(THREE, "strike 0");
        int[] want = {5, 4, 7, 7};
        for (int j = 0; j < 4; j++) due("JOB " + j, o.ready(j), want[j]);
        due("no JOB 4", o.ready(4), -1);
        due("no JOB -1", o.ready(-1), -1);
        go(o, 5);
        o.force(0);
        due("done already", o.ready(1), 4);
        due("never", o.ready(2), -2);
        // Burnt in every second MOMENT; HOT at the begin of those between.
        OneAnvil q = of("smithy 9 20 999;smith 20;job 0 face 1 20 0", "strike moment/499", "strike moment/501");
        q.force(0);
        due("in MOMENT 499", q.ready(0), 500);
        due("all in MOMENT 499", q.all(), 500);
        q.force(1);
        due("in MOMENT 501", q.ready(0), -2);
        due("all in MOMENT 501", q.all(), -2);
        due("the only order", q.order(0, 0), -2);
        go(q, 1);
        due("in MOMENT 501, from 1 on", q.ready(0), -2);
        go(q, 1);
        due("in MOMENT 501, from 2 on", q.ready(0), 502);
        due("all from 2 on", q.all(), 502);
        due("the only order from 2 on", q.order(0, 0), 502);
    }

    private static void all() {
        OneAnvil o = of(THREE, "strike 0");
        due("all", o.all(), 7);
        go(o, 3);
        due("all from 3 on", o.all(), 7);
        o.force(0);
        due("never", o.all(), -2);
        o.force(-1);
        go(o, 6);
        due("done already", o.all(), 9);
        due("without a SMITHY", new OneAnvil().all(), -1);
        due("without JOBS", of("smithy 1 20 9;smith 1").all(), 0);
    }

    private static void rota() {
        OneAnvil o = of(THREE);
        int[] want = {2, 0, 0, 3, -2};
        for (int k = 0; k < 5; k++) due("3, " + k, o.rota(3, k), want[k]);
        due("none in one", o.rota(1, 0), 0);
        go(o, 2);
        due("two at once", o.rota(1, 0), 2);
        due("the set", o.rota(1, 1), 3);
        o.worth(0, 1);
        due("behind WORTH", o.rota(1, 0), 2);
        due("0 MOMENTS", o.rota(0, 0), -1);
        due("5 MOMENTS", o.rota(5, 0), -1);
        due("what 5", o.rota(4, 5), -1);
        due("what -1", o.rota(4, -1), -1);
        due("without a SMITHY", new OneAnvil().rota(1, 0), -1);
        go(o, 2);
        due("who has no JOB", o.rota(1, 1), 1);
        OneAnvil p = of("smithy 1 20 99;smith 18;smith 1;job 0 face 9 17 0;job 1 face 9 1 0", "strike 0");
        p.force(0);
        p.moment();
        due("4 on one face", p.rota(4, 0), 4);
        int[] row = {1, 1, 2, 2};
        for (int k = 0; k < 4; k++) due("the first row, " + k, p.rota(4, k + 1), row[k]);
        OneAnvil q = of("smithy 1 20 99;smith 1");
        due("without JOBS", q.rota(4, 0) + q.rota(4, 4), 0);
    }

    private static void round() {
        OneAnvil o = of(LONE, "strike 0", "strike hot if left < 30;strike 0");
        int[] want = {6, 5, -2, -2};
        for (int k = 0; k < 4; k++) due("round " + k, o.round(k), want[k]);
        due("behind ROUND", o.ready(0), 38);
        due("what 4", o.round(4), -1);
        due("what -1", o.round(-1), -1);
        due("without a SMITHY", new OneAnvil().round(0), -1);
        o.force(0);
        due("10 20 30 0", o.round(0), 4);
        due("no BLOWS", o.round(1), 0);
        o.force(1);
        due("left as it is now", o.round(1), 0);
        OneAnvil p = of("smithy 2 30 99;smith 10;smith 10;job 0 face 3 15 0;job 1 face 3 15 0;part 0 99");
        due("SPLIT: MOMENTS", p.round(0), 6);
        due("SPLIT: BLOWS", p.round(1) + p.round(2), 0);
        OneAnvil q = of("smithy 1 96 9;smith 1;smith 2;smith 3;job 0 face 1 50 0;job 1 beak 1 50 0;job 2 heel 1 50 0",
            "strike 0");
        q.force(0);
        due("97 and 49 and 33", q.round(0), 97 * 49 * 33);
        OneAnvil r = of(LONE);
        r.round(0);
        go(r, 6);
        due("from HEAT 24 on", r.round(0), 6);
        OneAnvil s = of("smithy 2 30 99;smith 10;job 0 face 1 15 0;job 0 heel 1 1 1", "strike 1");
        due("BLOWS without end", s.round(1), 5);
        s.force(0);
        due("cold for ever", s.round(0), 1);
        due("no cold BLOWS", s.round(1), 0);
        OneAnvil t = of("smithy 2 99 99;smith 10;job 0 face 9 15 0", "strike 1 if heat<5 or heat>=50");
        t.force(0);
        due("from HEAT 0 on", t.round(0), 1);
        OneAnvil u = of("smithy 2 30 99;smith 10;smith 8;smith 3;job 0 face 3 15 0;job 1 beak 1 8 0;job 2 weld 1 3 0");
        // They go round in 6, 5 and 5 MOMENTS; both others heat in MOMENT 17 alone: SMITH 2, of HEAT 1, too.
        int[] three = {30, 25, 24, 0};
        for (int k = 0; k < 4; k++) due("three at once, " + k, u.round(k), three[k]);
        go(u, 1);
        u.quench(2);
        due("one MOMENT later", u.round(3), 1);
        due("without SMITHS", of("smithy 1 20 9").round(0), 1);
        due("who has no JOB", of("smithy 1 20 9;smith 3").round(1), 0);
    }

    private static void beside() {
        OneAnvil o = of(THREE);
        int[] want = {2, 12, 0, 1, -1};
        for (int k = 0; k < 5; k++) due("beside " + k, o.beside(k), want[k]);
        due("what 5", o.beside(5), -3);
        due("what -1", o.beside(-1), -3);
        due("without a SMITHY", new OneAnvil().beside(0), -3);
        due("no such SMITH", of(LONE).beside(3), -2);
        go(o, 4);
        due("JOB 1 is done: PAY", o.beside(1), 12);
        due("JOB 3", o.beside(2), 3);
        due("JOB 2", o.beside(4), 2);
        OneAnvil p = of("smithy 1 20 9;smith 1;smith 1;job 0 weld 1 1 50;job 0 face 1 1 1;job 1 beak 1 1 1");
        due("most JOBS first", p.beside(0), 2);
        due("then PAY", p.beside(1), 2);
        OneAnvil r = of("smithy 1 20 9;smith 1;smith 1;job 0 face 1 1 1;job 0 weld 1 1 50;job 1 beak 1 1 1");
        due("behind an order", r.order(0, 0) * 10 + r.beside(0), 42);
        due("not fewer of more PAY", r.beside(1), 2);
        OneAnvil q = of("smithy 1 20 9;smith 1;smith 1;job 0 face 1 1 3;job 1 face 1 1 3");
        due("none is ahead", q.beside(2), -1);
        due("of JOB 0", q.beside(3), 1);
    }

    private static void worth() {
        OneAnvil o = of(THREE);
        due("SMITH 0 for 5", o.worth(0, 5), 1);
        due("SMITH 0 for 4", o.worth(0, 4), 0);
        due("SMITH 0 for 1", o.worth(0, 1), 0);
        due("SMITH 2 for 7", o.worth(2, 7), 0);
        due("0 MOMENTS", o.worth(0, 0), -100000);
        due("61 MOMENTS", o.worth(0, 61), -100000);
        due("60 MOMENTS", o.worth(2, 60), 0);
        due("no SMITH", o.worth(3, 5), -100000);
        due("no SMITH -1", o.worth(-1, 5), -100000);
        OneAnvil p = of(TWO_ON_FACE, "strike hot*rivals");
        p.force(0);
        due("who isn't there is no rival", p.worth(0, 4), 0);
        due("none strikes without a rival", p.worth(1, 4), -2);
    }

    private static void splits() {
        OneAnvil o = of(THREE);
        due("MOMENT", o.splits(1, 0), 6);
        due("whose", o.splits(1, 1), 2);
        due("never", o.splits(0, 0), -2);
        due("nobody's", o.splits(0, 1), -2);
        due("no part 3", o.splits(3, 0), -3);
        due("no part -1", o.splits(-1, 0), -3);
        due("no what 2", o.splits(0, 2), -3);
        due("no what -1", o.splits(0, -1), -3);
        due("without a SMITHY", new OneAnvil().splits(0, 0), -3);
        go(o, 7);
        due("SPLIT already", o.splits(1, 0), -1);
        due("SPLIT already, whose", o.splits(1, 1), -1);
        OneAnvil p = of(LONE, "strike 1");
        p.force(0);
        due("cold ones, too", p.splits(0, 0), 98);
        p.moment();
        due("from MOMENT 1 on", p.splits(0, 0), 98);
        OneAnvil q = of(LONE, "strike moment/401", "strike moment/402");
        q.force(0);
        due("in MOMENT 499", q.splits(0, 0), 499);
        q.force(1);
        due("in MOMENT 500", q.splits(0, 0), -2);
        q.moment();
        due("in MOMENT 500, from 1 on", q.splits(0, 0), 500);
        due("whose", q.splits(0, 1), 0);
    }

    private static void order() {
        OneAnvil o = of(THREE, "strike 0");
        int[] want = {7, 0, 3, -2, -2, -2};
        for (int k = 0; k < 6; k++) due("of several the first, " + k, o.order(0, k), want[k]);
        due("what 6", o.order(0, 6), -1);
        due("what -1", o.order(0, -1), -1);
        due("no SMITH 3", o.order(3, 0), -1);
        due("no SMITH -1", o.order(-1, 0), -1);
        o.force(0);
        due("never", o.order(0, 0), -2);
        due("no place", o.order(0, 1), -2);
        o.force(-1);
        go(o, 8);
        due("none left", o.order(0, 0), 8);
        due("none left: place", o.order(0, 1), -2);
        OneAnvil p = of("smithy 1 60 99;smith 20;smith 10;job 0 face 3 10 0;job 1 face 1 10 0;job 1 heel 1 10 0");
        int[] other = {6, 2, 1, -2};
        for (int k = 0; k < 4; k++) due("the other way, " + k, p.order(1, k), other[k]);
        go(p, 1);
        due("HEAT 10 goes with the other one", p.order(1, 0), 5);
        due("what comes first then", p.order(1, 1), 2);
        OneAnvil h = of("smithy 1 60 99;smith 10;job 0 face 1 20 0");
        go(h, 2);
        due("HEAT 20 stays with the JOB", h.order(0, 0), 3);
        String six = "smithy 1 60 99;smith 20" + times(";job 0 face 1 10 0", 6);
        OneAnvil q = of(six);
        due("6 JOBS", q.order(0, 0), -3);
        due("6 JOBS, a place", q.order(0, 5), -3);
        go(q, 2);
        due("5 JOBS", q.order(0, 0), 12);
        for (int k = 1; k < 6; k++) due("5 JOBS, " + k, q.order(0, k), k);
    }

    // ---- 24 to 27: notes, a second face

    private static void note() {
        OneAnvil none = new OneAnvil();
        due("without a SMITHY", none.note(0, 0, 0), -2);
        due("none, without a SMITHY", none.note(-1, 9, 9), 0);
        OneAnvil o = of(THREE);
        due("n -2", o.note(-2, 0, 0), -2);
        due("n 100", o.note(100, 0, 0), -2);
        due("part 3", o.note(0, 3, 0), -2);
        due("part -1", o.note(0, -1, 0), -2);
        due("worn -1", o.note(0, 0, -1), -2);
        due("worn 10000", o.note(0, 0, 10000), -2);
        due("nothing happened", o.count(11), 0);
        for (int k = 1; k <= 10; k++) due("NOTE " + k, o.note(k == 1 ? 0 : 99, 2, k == 1 ? 0 : 9999), k);
        due("an eleventh", o.note(0, 0, 0), -2);
        due("ten", o.count(11), 10);
        due("none then", o.note(-1, 0, 0), 0);
        due("none", o.count(11), 0);
    }

    private static void ruled() {
        OneAnvil o = of(THREE, "strike 0", "strike hot");
        due("without NOTES", o.ruled(0), 3);
        due("none ahead of 0", o.ruled(1), -1);
        go(o, 5);
        o.mend(1);
        o.note(3, 0, 1);
        due("none and RULE 1", o.ruled(0), 2);
        due("told as NONE", o.ruled(1), -1);
        o.note(-1, 0, 0);
        o.note(3, 0, 0);
        due("RULE 0", o.ruled(0), 1);
        due("the first", o.ruled(1), 0);
        o.note(0, 1, 2);
        due("still", o.ruled(0), 1);
        o.note(3, 1, 3);
        due("none is so", o.ruled(0), 0);
        due("there is none such", o.ruled(1), -2);
        due("what 2", o.ruled(2), -3);
        due("what -1", o.ruled(-1), -3);
        due("without a SMITHY", new OneAnvil().ruled(0), -3);
        o.note(-1, 0, 0);
        o.note(99, 2, 1);
        due("at the last", o.ruled(0), 2);
        String hot = "strike hot";
        OneAnvil p = of(THREE, hot, hot, hot, hot, hot, hot);
        due("all and none", p.ruled(0), 7);
        due("all alike", p.look(9, 1), 7);
    }

    private static void look() {
        OneAnvil o = of(THREE, "strike 0", "strike hot");
        due("the face", o.look(3, 0), 0);
        due("two are alike", o.look(3, 1), 2);
        due("all alike: the least part", o.look(0, 0), 0);
        due("all alike", o.look(0, 1), 3);
        due("at 99", o.look(99, 1), 2);
        due("at 100", o.look(100, 0), -1);
        due("at -1", o.look(-1, 0), -1);
        due("what 2", o.look(0, 2), -1);
        due("what -1", o.look(0, -1), -1);
        due("without a SMITHY", new OneAnvil().look(0, 0), -1);
        o.note(3, 0, 1);
        due("those that are so", o.look(3, 1), 2);
        o.note(3, 0, 0);
        due("no RULE is so", o.look(3, 0), -2);
        due("no RULE is so, how many", o.look(3, 1), -2);
        OneAnvil p = of(THREE, "strike hot if not smith=1");
        due("the beak", p.look(3, 0), 1);
        due("each for itself", p.look(3, 1), 1);
        due("none alone", of(THREE).look(3, 1), 1);
    }

    private static void second() {
        due("without a SMITHY", new OneAnvil().second(), -100000);
        due("a weld takes the first", of(THREE).second(), 0);
        due("side by side", of(TWO_ON_FACE).second(), 2);
        due("the first is SPLIT", of(TWO_ON_FACE + ";part 0 99").second(), 494);
        OneAnvil p = of("smithy 1 30 1;smith 10;smith 10;job 0 face 1 10 0;job 1 face 1 10 0");
        due("never by one", p.second(), 498);
        OneAnvil q = of("smithy 1 30 1;smith 10;job 0 face 3 10 0");
        due("SPLIT, both", q.second(), 0);
        OneAnvil r = of("smithy 1 30 99;smith 10;smith 10;job 0 face 2 10 0;job 1 weld 2 10 0");
        due("no weld", r.second(), 0);
        go(p, 9);
        due("done or not", p.second(), 499);
    }

    // ---- 28 to 32: draws, counts, images

    private static void seed() {
        OneAnvil o = new OneAnvil();
        due("0 at first", o.seed(7), 0);
        due("what it was", o.seed(2147483647), 7);
        due("below 0", o.seed(-1), -1);
        due("far below 0", o.seed(FAR_BELOW), -1);
        due("nothing happened", o.count(13), 2147483647);
        due("the greatest", o.seed(0), 2147483647);
    }

    private static void days() {
        OneAnvil o = of(THREE);
        // Of x 0 the DRAWS mod 100 are 0 68 88 17 98 27 45 41 22 10 61 52 59 58.
        due("as it goes", o.days(1, 7, 0, 0), 8);
        due("three times", o.days(3, 7, 0, 0), 24);
        due("no HEAT at all", o.days(10, 99, 100, 0), 0);
        due("no HEAT at first", o.days(1, 7, 1, 0), 6);
        due("one MOMENT later", o.days(1, 8, 1, 0), 8);
        due("x goes on", o.days(2, 7, 1, 0), 14);
        due("x as it was", o.count(13), 0);
        due("nothing stays", o.count(7) + o.count(12), 0);
        OneAnvil p = of("smithy 1 20 99;smith 20;job 0 face 9 50 0");
        due("BURNT", p.days(2, 10, 0, 1), 10);
        due("no BLOWS", p.days(2, 10, 0, 0), 0);
        due("BURNT anew", p.days(1, 10, 0, 1), 5);
        due("one MOMENT", p.days(1, 1, 0, 1), 0);
        due("nothing is BURNT", p.days(1, 99, 100, 1), 0);
        due("behind DAYS", p.ahead(0, 1, 0), 20);
        int[][] wrong = {{0, 1, 0, 0}, {11, 1, 0, 0}, {1, 0, 0, 0}, {1, 100, 0, 0}, {1, 1, -1, 0}, {1, 1, 101, 0},
            {1, 1, 0, 2}, {1, 1, 0, -1}};
        for (int[] w : wrong) due("wrong " + w[0] + " " + w[1], o.days(w[0], w[1], w[2], w[3]), -1);
        due("without a SMITHY", new OneAnvil().days(1, 1, 0, 0), -1);
    }

    private static void count() {
        OneAnvil o = of(THREE, "strike hot", "strike 0");
        o.force(0);
        go(o, 7);
        o.note(3, 0, 1);
        o.seed(77);
        o.feed(0, 0, 0, 0, 0);
        int[] want = {2, 30, 6, 3, 4, 2, 0, 7, 15, 24, 2, 1, 7, 77, 20};
        for (int k = 0; k < want.length; k++) due("count " + k, o.count(k), want[k]);
        due("what 15", o.count(15), -1);
        due("what -1", o.count(-1), -1);
        due("far out", o.count(FAR_BELOW), -1);
    }

    private static void image() {
        OneAnvil o = new OneAnvil();
        due("where nothing was told", o.image(3), 0);
        due("IMAGE 4", o.image(4), -1);
        due("IMAGE -1", o.image(-1), -1);
        due("made", o.back(3), 0);
        OneAnvil p = of(THREE);
        go(p, 2);
        due("MOMENT", p.image(0), 2);
        due("MOMENT stays", p.count(7), 2);
        due("UNDONE can be", p.count(12), 2);
        go(p, 1);
        due("over the old one", p.image(0), 3);
        due("the new one", p.back(0), 3);
    }

    private static void back() {
        OneAnvil o = of(THREE, "strike 0");
        due("never made", o.back(0), -1);
        due("IMAGE 4", o.back(4), -1);
        due("IMAGE -1", o.back(-1), -1);
        go(o, 3);
        o.note(3, 0, 1);
        o.note(3, 1, 3);
        o.seed(5);
        o.force(0);
        o.image(1);
        o.force(-1);
        o.seed(6);
        o.note(-1, 0, 0);
        o.note(9, 2, 99);
        o.note(8, 2, 77);
        go(o, 4);
        o.aside(0);
        tell(o, LONE);
        o.smithy();
        tell(o, "strike 1");
        o.rule();
        o.feed(0, 0, 0, 0, 0);
        go(o, 1);
        due("MOMENT", o.back(1), 3);
        int[] want = {2, 30, 6, 3, 4, 2, 0, 3, 0, 0, 0, 2, 0, 5, 20};
        for (int k = 0; k < want.length; k++) due("count " + k, o.count(k), want[k]);
        due("nothing can be UNDONE", o.undo(), -1);
        due("waits", o.smith(2, 3), 1);
        due("worn", o.worn(1), 3);
        due("JOB", o.job(1, 2), 1);
        due("NOTES", o.ruled(0), 1);
        due("of none", o.ruled(1), -1);
        o.force(-1);
        go(o, 4);
        due("goes on as it did", o.count(8), 15);
        due("the IMAGE is as it was", o.back(1), 3);
        OneAnvil p = new OneAnvil();
        p.image(0);
        tell(p, THREE);
        p.smithy();
        p.moment();
        due("to where nothing was told", p.back(0), 0);
        due("no SMITHY", p.moment(), -1);
        due("no SMITHS", p.count(3), 0);
        due("no STRENGTH", p.count(2), 0);
        due("no parts", p.worn(0), -1);
    }
}
