/** The edges that the document names in promises 26 to 29 and for CHANGES and PLANS in its Terms, a sentence each. */
public final class EdgesPlansTest {
    private static final Due due = new Due("EdgesPlansTest");
    private static final int NONE = SewnAhead.NONE;
    private static final int MAX = Integer.MAX_VALUE, MIN = Integer.MIN_VALUE;
    private static final int NOTHING = 1, UNLIKE = 3, SIZE = 5;
    private static final int[] NO_SCENES = {-1, 5, 6, NONE, MAX, MIN};
    private static final int[] NO_YEARS = {-1, 5, 6, NONE, MAX, MIN};
    private static final int[] NO_ROWS = {-1, 6, 7, NONE, MAX, MIN};

    public static void main(String[] args) {
        least();
        leastFirst();
        leastIntoRow();
        leastNever();
        leastRefused();
        ways();
        waysRefused();
        avert();
        avertRefused();
        changes();
        judge();
        judgeRefused();
        due.end();
    }

    private static int stitchesOf(int[] plan) {
        int n = 0;
        for (int change : plan) {
            n += change == 6 ? 0 : 1;
        }
        return n;
    }

    private static void leastIs(SewnAhead x, int scene, int y, int... plan) {
        int before = x.count(2);
        int told = x.asked();
        due.is("least(" + scene + ", " + y + ", 3)", x.least(scene, y, 3), stitchesOf(plan));
        due.is("asked()", x.asked(), told);
        due.is("count(2): it is done aside", x.count(2), before);
        due.row("least(" + scene + ", " + y + ", 3)", x, 3, plan);
    }

    private static void least() {
        due.sentence("26 least: The PLAN of fewest STITCHES by which a SCENE HAPPENS in a YEAR, and nothing is BROKEN");
        leastIs(Due.cloth("y0-"), 0, 0, 6, 6);
        leastIs(Due.cloth("y0- l01"), 1, 1, 6, 6);
        leastIs(Due.cloth("y-----"), 4, 4, 6, 6, 6, 6, 4);
        leastIs(Due.cloth("y-----"), 0, 0, 0, 6, 6, 6, 6);
        leastIs(Due.cloth("y01 b01"), 1, 1, 5, 6);
        leastIs(Due.cloth("y0-2-3 b23 k02"), 0, 0, 6, 6, 5, 6, 6);
        leastIs(Due.cloth("y11111 g10"), 0, 4, 6, 6, 6, 6, 5);
        leastIs(Due.cloth("y11111 g10 k11"), 0, 0, 5, 5, 5, 5, 6);
        leastIs(Due.cloth("y11111 g10 k10"), 0, 0, 5, 5, 5, 5, 5);
        leastIs(Due.cloth("y0-1 g10 b01"), 0, 2, 6, 6, 5);
    }

    private static void leastFirst() {
        due.sentence("26 least: (the first)");
        leastIs(Due.cloth("y--- l20 l30 l40"), 0, 1, 2, 6, 6);
        leastIs(Due.cloth("y--- s10"), 0, 2, 1, 6, 6);
        leastIs(Due.cloth("y11-- k11 g10"), 0, 3, 5, 6, 6, 0);
        due.sentence("PLANS go by these, YEAR by YEAR");
        leastIs(Due.cloth("y--- l01"), 1, 1, 0, 6, 6);
        leastIs(Due.cloth("y-0- l12 k01 k02"), 2, 2, 6, 5, 2);
        leastIs(Due.cloth("y11-- k11 g10"), 1, 3, 5, 5, 6, 1);
        due.sentence("PLANS, with no LAW and with all eight");
        leastIs(Due.cloth("y--"), 0, 0, 0, 6);
        leastIs(Due.cloth("y-- b12 b13 b14 k12 k13 k14 k23 l01"), 1, 1, 0, 6);
        leastIs(Due.cloth("y0- b12 b13 b14 k12 k13 k14 k23 k01"), 1, 1, 5, 1);
        avertIs(Due.cloth("y01 b12 b13 b14 k12 k13 k14 k23 k01"), 4, 5, 6);
        due.sentence("PLANS (aside): a ROW of CHANGES, whatever STITCHES there are");
        leastIs(Due.full("y0-"), 4, 1, 6, 4);
        leastIs(Due.full("y0- b02 g04"), 2, 1, 5, 2);
    }

    private static void leastIntoRow() {
        due.sentence("26 least: comes to a ROW (anew)");
        SewnAhead x = Due.cloth("y-- l01");
        due.is("least into a missing one", x.least(1, 1, 0), 1);
        due.row("least into a missing one", x, 0, 0, 6);
        x.row(1, 40);
        x.lay(1, 39, 7);
        due.is("least into a longer one", x.least(1, 1, 1), 1);
        due.row("least into a longer one", x, 1, 0, 6);
        x.row(5, 0);
        due.is("least into a shorter one", x.least(4, 0, 5), 1);
        due.row("least into a shorter one", x, 5, 4, 6);
        due.is("count(6)", x.count(6), 3);
        due.row("others stay", x, 0, 0, 6);
    }

    private static void leastNever() {
        due.sentence("26 least: NONE: never");
        SewnAhead x = Due.cloth("y00 g02");
        Due.fill(x, 1, 7, 8, 9);
        long before = x.digest();
        due.is("no way to it", x.least(1, 0, 1), NONE);
        due.is("no way to it, a missing ROW", x.least(1, 0, 2), NONE);
        due.is("digest()", x.digest(), before);
        due.is("finding(): it is no refusal", x.finding(), 0);
        due.is("always BROKEN", Due.cloth("y11 g11 k11").least(1, 1, 1), NONE);
        due.is("always BROKEN by it", Due.cloth("y12 g22 b12").least(1, 0, 1), NONE);
        due.is("a SCENE that is BROKEN by itself, once", Due.cloth("y1- k11").least(1, 0, 1), 0);
    }

    private static void leastRefused() {
        due.sentence("26 least: BAD");
        for (int scene : NO_SCENES) {
            due.bad("least(" + scene + ", 0, 0)", Due::rich, x -> x.least(scene, 0, 0));
        }
        for (int y : NO_YEARS) {
            due.bad("least(0, " + y + ", 0)", Due::rich, x -> x.least(0, y, 0));
        }
        for (int r : NO_ROWS) {
            due.bad("least(0, 0, " + r + ")", Due::rich, x -> x.least(0, 0, r));
        }
        due.bad("least(0, 2, 0), of two", () -> Due.cloth("y--"), x -> x.least(0, 2, 0));
        due.bad("least(0, 0, 0), no YEARS", SewnAhead::new, x -> x.least(0, 0, 0));
    }

    private static void waysAre(SewnAhead x, int scene, int y, int... byStitches) {
        long before = x.digest();
        int told = x.asked();
        for (int n = 0; n < byStitches.length; n++) {
            String call = "ways(" + scene + ", " + y + ", " + n + ")";
            due.is(call, x.ways(scene, y, n), 1);
            due.fraction(call, x, byStitches[n], 1);
        }
        due.is("digest()", x.digest(), before);
        due.is("asked()", x.asked(), told);
    }

    private static void ways() {
        due.sentence("27 ways: How many PLANS there are, with n (0 .. 5) STITCHES at most");
        waysAre(Due.cloth("y-----"), 0, 0, 0, 1, 21, 171, 671, 1296);
        waysAre(Due.cloth("y----- l00"), 0, 4, 0, 5, 55, 305, 930, 1555);
        waysAre(Due.cloth("y00000"), 0, 2, 1, 5, 11, 15, 16, 16);
        waysAre(Due.cloth("y00"), 0, 0, 1, 2, 2, 2, 2, 2);
        waysAre(Due.cloth("y00"), 1, 0, 0, 0, 0, 0, 0, 0);
        waysAre(Due.cloth("y01 b01"), 0, 0, 0, 1, 1, 1, 1, 1);
        waysAre(Due.full("y0-"), 2, 1, 0, 1, 2, 2, 2, 2);
        due.sentence("27 ways: told by upper() (lower() is 1): 1");
        SewnAhead x = Due.cloth("y--");
        x.odds(0, 0);
        due.fraction("odds(0, 0), ahead of it", x, 1, 6);
        due.is("ways(0, 0, 5)", x.ways(0, 0, 5), 1);
        due.fraction("ways(0, 0, 5)", x, 6, 1);
        x.odds(0, 0);
        due.is("ways(0, 0, 0)", x.ways(0, 0, 0), 1);
        due.fraction("ways(0, 0, 0), none", x, 0, 1);
    }

    private static void waysRefused() {
        due.sentence("27 ways: BAD");
        for (int n : new int[] {-1, 6, 7, NONE, MAX, MIN}) {
            due.bad("ways(0, 0, " + n + ")", Due::rich, x -> x.ways(0, 0, n));
        }
        for (int scene : NO_SCENES) {
            due.bad("ways(" + scene + ", 0, 0)", Due::rich, x -> x.ways(scene, 0, 0));
        }
        for (int y : NO_YEARS) {
            due.bad("ways(0, " + y + ", 0)", Due::rich, x -> x.ways(0, y, 0));
        }
        due.bad("ways(0, 2, 0), of two", () -> Due.cloth("y--"), x -> x.ways(0, 2, 0));
        due.bad("ways(0, 0, 0), no YEARS", SewnAhead::new, x -> x.ways(0, 0, 0));
    }

    private static void avertIs(SewnAhead x, int scene, int... plan) {
        int before = x.count(2);
        int told = x.asked();
        due.is("avert(" + scene + ", 3)", x.avert(scene, 3), stitchesOf(plan));
        due.is("asked()", x.asked(), told);
        due.is("count(2): it is done aside", x.count(2), before);
        due.row("avert(" + scene + ", 3)", x, 3, plan);
    }

    private static void avert() {
        due.sentence("28 avert: The fewest STITCHES by which a SCENE HAPPENS in no YEAR, and nothing is BROKEN");
        avertIs(Due.cloth("y--"), 0, 6, 6);
        avertIs(Due.cloth("y4----"), 4, 5, 6, 6, 6, 6);
        avertIs(Due.cloth("y----4"), 4, 6, 6, 6, 6, 5);
        avertIs(Due.cloth("y00000"), 0, 5, 5, 5, 5, 5);
        avertIs(Due.cloth("y01 b01"), 4, 5, 6);
        avertIs(Due.cloth("y0-- l01 e01 g02"), 1, 5, 6, 6);
        due.sentence("28 avert: the first such PLAN comes to a ROW (anew)");
        avertIs(Due.cloth("y0- l01 g01"), 1, 6, 0);
        SewnAhead x = Due.cloth("y0-");
        x.row(3, 40);
        avertIs(x, 0, 5, 6);
        x.row(3, 0);
        avertIs(x, 1, 6, 6);
        avertIs(Due.full("y0-"), 0, 5, 6);
        due.sentence("28 avert: NONE: never");
        SewnAhead never = Due.cloth("y00 g00");
        Due.fill(never, 1, 7, 8, 9);
        long before = never.digest();
        due.is("avert(0, 1)", never.avert(0, 1), NONE);
        due.is("avert(0, 2), a missing ROW", never.avert(0, 2), NONE);
        due.is("digest()", never.digest(), before);
        due.is("finding(): it is no refusal", never.finding(), 0);
        due.is("always BROKEN", Due.cloth("y11 g11 k11").avert(0, 1), NONE);
    }

    private static void avertRefused() {
        due.sentence("28 avert: BAD");
        for (int scene : NO_SCENES) {
            due.bad("avert(" + scene + ", 0)", Due::rich, x -> x.avert(scene, 0));
            due.bad("avert(" + scene + ", 0), no YEARS", SewnAhead::new, x -> x.avert(scene, 0));
        }
        for (int r : NO_ROWS) {
            due.bad("avert(0, " + r + ")", Due::rich, x -> x.avert(0, r));
            due.bad("avert(0, " + r + "), no YEARS", SewnAhead::new, x -> x.avert(0, r));
        }
        due.sentence("28 avert: STATE: no YEARS");
        due.state("avert(0, 0)", SewnAhead::new, x -> x.avert(0, 0));
        due.state("avert(4, 5)", SewnAhead::new, x -> x.avert(4, 5));
    }

    private static SewnAhead plan(SewnAhead x, int... plan) {
        Due.fill(x, 4, plan);
        return x;
    }

    /** YEAR 0 SEWN, 1 PLAIN, 2 a HOLE. */
    private static SewnAhead each() {
        SewnAhead x = Due.cloth("y0-2");
        x.unpick(2);
        return x;
    }

    private static void changes() {
        due.sentence("A CHANGE: 0 .. 4: SEWN, DARNED, 5: UNPICKED, 6: none; as each can be");
        for (int change : new int[] {-9, -1, 0, 1, 2, 3, 4, 5, 6, 7, 8, MAX, MIN}) {
            boolean scene = change >= 0 && change <= 4;
            changeIs(0, change, change == 5 || change == 6);
            changeIs(1, change, scene || change == 6);
            changeIs(2, change, scene || change == 6);
        }
    }

    private static void changeIs(int y, int change, boolean can) {
        int[] plan = {6, 6, 6};
        plan[y] = change;
        String call = "judge of " + change + " in YEAR " + y;
        if (can) {
            due.is(call, plan(each(), plan).judge(4), 0);
        } else {
            due.found(call, UNLIKE, () -> plan(each(), plan), x -> x.judge(4));
        }
    }

    private static void judgeIs(SewnAhead x, int brokenLaws, int years, int... plan) {
        Due.fill(x, 4, plan);
        long before = x.digest();
        due.is("judge(4)", x.judge(4), brokenLaws);
        due.is("judge(4), then asked()", x.asked(), years);
        due.is("digest(): it is done aside", x.digest(), before);
    }

    private static void judge() {
        due.sentence("29 judge: A PLAN in a ROW, aside: how many LAWS are BROKEN then");
        judgeIs(Due.cloth("y0- b01 k01 b10 k10 b01 k01 b10 k10"), 8, 3, 6, 1);
        judgeIs(Due.cloth("y0- b01 k01"), 0, 3, 6, 2);
        judgeIs(Due.cloth("y01 b01 k01"), 2, 3, 6, 6);
        judgeIs(Due.cloth("y01 b01 k01"), 0, 2, 5, 6);
        due.sentence("29 judge: YEARS (bits) in which something HAPPENS by asked()");
        judgeIs(Due.cloth("y01234"), 0, 31, 6, 6, 6, 6, 6);
        judgeIs(Due.cloth("y01234"), 0, 0, 5, 5, 5, 5, 5);
        judgeIs(Due.cloth("y01234"), 0, 16, 5, 5, 5, 5, 6);
        judgeIs(Due.cloth("y-----"), 0, 0, 6, 6, 6, 6, 6);
        judgeIs(Due.cloth("y-----"), 0, 31, 4, 3, 2, 1, 0);
        judgeIs(Due.cloth("y0---- l01 e13 g04 s42"), 0, 31, 5, 6, 6, 0, 6);
        judgeIs(Due.cloth("y0---- l01 e13 g04 s42"), 0, 15, 5, 6, 6, 3, 6);
        judgeIs(Due.full("y0-"), 0, 3, 6, 4);
        SewnAhead sewn = Due.cloth("y--- b01 k02");
        sewn.sew(0, 0);
        judgeIs(sewn, 2, 7, 6, 1, 2);
        Due.write(sewn, 1, "y444 b44");
        sewn.fault(1);
        judgeIs(sewn, 1, 3, 6, 1, 6);
        sewn.undo(0);
        judgeIs(sewn, 0, 6, 6, 1, 2);
    }

    private static void judgeRefused() {
        due.sentence("29 judge: BAD");
        for (int r : NO_ROWS) {
            due.bad("judge(" + r + ")", Due::rich, x -> x.judge(r));
            due.bad("judge(" + r + "), no YEARS", SewnAhead::new, x -> x.judge(r));
        }
        due.sentence("29 judge: STATE: no YEARS (In this order.)");
        due.state("judge(0), missing", SewnAhead::new, x -> x.judge(0));
        due.state("judge(4), of no ints", () -> plan(new SewnAhead()), x -> x.judge(4));
        due.state("judge(4), UNLIKE", () -> plan(new SewnAhead(), 9, 9), x -> x.judge(4));
        due.sentence("29 judge: NOTHING");
        due.found("judge(5), missing", NOTHING, EdgesPlansTest::each, x -> x.judge(5));
        due.sentence("29 judge: SIZE: not as many as YEARS");
        due.found("judge(4), none", SIZE, () -> plan(each()), x -> x.judge(4));
        due.found("judge(4), one fewer", SIZE, () -> plan(each(), 6, 6), x -> x.judge(4));
        due.found("judge(4), one more", SIZE, () -> plan(each(), 6, 6, 6, 6), x -> x.judge(4));
        due.found("judge(4), one more, UNLIKE too", SIZE, () -> plan(each(), 9, 9, 9, 9), x -> x.judge(4));
        due.found("judge(4), one fewer, UNLIKE too", SIZE, () -> plan(each(), 9, 9), x -> x.judge(4));
        due.found("judge(4), 40", SIZE, () -> plan(each(), new int[40]), x -> x.judge(4));
        due.sentence("29 judge: UNLIKE: a CHANGE that can't be");
        due.found("judge(4), the first YEAR", UNLIKE, () -> plan(each(), 0, 6, 6), x -> x.judge(4));
        due.found("judge(4), the last YEAR", UNLIKE, () -> plan(each(), 6, 6, 5), x -> x.judge(4));
        due.found("judge(4), each YEAR, once", UNLIKE, () -> plan(each(), 7, 7, 7), x -> x.judge(4));
    }
}
