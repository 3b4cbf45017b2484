/** Promises 26 to 29: least, ways, avert, judge. */
public final class PlansTest {
    private static final Due due = new Due("PlansTest");
    private static final int BAD = SewnAhead.BAD, STATE = SewnAhead.STATE, NONE = SewnAhead.NONE;
    private static final int MAX = Integer.MAX_VALUE, MIN = Integer.MIN_VALUE;
    private static final int NOTHING = 1, UNLIKE = 3, SIZE = 5;

    public static void main(String[] args) {
        least();
        leastNever();
        leastRefused();
        ways();
        waysRefused();
        avert();
        avertRefused();
        judge();
        judgeRefused();
        due.end();
    }

    private static void leastIs(SewnAhead x, int scene, int y, int... plan) {
        int stitches = 0;
        for (int change : plan) {
            stitches += change == 6 ? 0 : 1;
        }
        int before = x.count(2);
        due.is("least(" + scene + ", " + y + ", 3)", x.least(scene, y, 3), stitches);
        due.row("least(" + scene + ", " + y + ", 3)", x, 3, plan);
        due.is("least, count(2)", x.count(2), before);
    }

    private static void least() {
        leastIs(Due.cloth("y--"), 4, 1, 6, 4);
        leastIs(Due.cloth("y--"), 0, 0, 0, 6);
        leastIs(Due.cloth("y0-"), 0, 0, 6, 6);
        leastIs(Due.cloth("y--- l01"), 1, 1, 0, 6, 6);
        leastIs(Due.cloth("y--- l01"), 1, 2, 6, 0, 6);
        leastIs(Due.cloth("y--- e01"), 1, 2, 0, 6, 6);
        leastIs(Due.cloth("y--- s01"), 1, 2, 0, 6, 6);
        leastIs(Due.cloth("y--- l40 l30"), 0, 1, 3, 6, 6);
        leastIs(Due.cloth("y0- b01"), 1, 1, 5, 1);
        leastIs(Due.cloth("y00 g01"), 1, 0, 5, 6);
        leastIs(Due.cloth("y00 g01"), 1, 1, 6, 5);
        leastIs(Due.cloth("y01 b01 g03"), 1, 1, 5, 6);
        leastIs(Due.cloth("y01 b01 g03"), 0, 0, 6, 5);
        leastIs(Due.cloth("y01-23 b01 b23"), 2, 3, 5, 6, 6, 6, 5);
        leastIs(Due.cloth("y10101 b01 g12"), 0, 1, 5, 6, 5, 5, 6);
        leastIs(Due.cloth("y0-0-0 k01 g01 l01"), 1, 1, 5, 1, 5, 6, 5);
        SewnAhead x = Due.cloth("y0--");
        x.unpick(0);
        leastIs(x, 2, 0, 2, 6, 6);
        x.row(3, 40);
        leastIs(x, 2, 2, 6, 6, 2);
        SewnAhead full = Due.cloth("y0-");
        for (int i = 0; i < 20; i++) {
            full.sew(1, 1);
            full.unpick(1);
        }
        leastIs(full, 4, 1, 6, 4);
    }

    private static void leastNever() {
        SewnAhead x = Due.cloth("y00 g02");
        Due.fill(x, 1, 7, 8, 9);
        long before = x.digest();
        due.is("least, never", x.least(1, 0, 1), NONE);
        due.is("least, never, into a missing one", x.least(1, 0, 2), NONE);
        due.is("least, never, changes nothing", x.digest(), before);
        due.is("an END that breaks", Due.cloth("y11 g02 b00 k22").least(1, 0, 1), 0);
        due.is("BROKEN for ever", Due.cloth("y11 g10 b00 k11").least(0, 1, 1), 1);
        due.is("BROKEN for ever", Due.cloth("y11 g11 k11").least(1, 1, 1), NONE);
    }

    private static void leastRefused() {
        SewnAhead x = Due.cloth("y0-");
        due.refuses("least(5, 0, 0)", x, BAD, () -> x.least(5, 0, 0));
        due.refuses("least(-1, 0, 0)", x, BAD, () -> x.least(-1, 0, 0));
        due.refuses("least(0, 2, 0)", x, BAD, () -> x.least(0, 2, 0));
        due.refuses("least(0, -1, 0)", x, BAD, () -> x.least(0, -1, 0));
        due.refuses("least(0, 0, 6)", x, BAD, () -> x.least(0, 0, 6));
        due.refuses("least(0, 0, -1)", x, BAD, () -> x.least(0, 0, -1));
        SewnAhead none = new SewnAhead();
        due.refuses("least(0, 0, 0), no YEARS", none, BAD, () -> none.least(0, 0, 0));
    }

    private static void waysIs(SewnAhead x, int scene, int y, int... byStitches) {
        long before = x.digest();
        for (int n = 0; n < byStitches.length; n++) {
            String call = "ways(" + scene + ", " + y + ", " + n + ")";
            due.is(call, x.ways(scene, y, n), 1);
            due.fraction(call, x, byStitches[n], 1);
        }
        due.is("ways changes nothing", x.digest(), before);
    }

    private static void ways() {
        waysIs(Due.cloth("y--"), 4, 1, 0, 1, 6, 6, 6, 6);
        waysIs(Due.cloth("y00 g01"), 1, 0, 0, 1, 2, 2, 2, 2);
        waysIs(Due.cloth("y00 g01"), 0, 0, 1, 2, 2, 2, 2, 2);
        waysIs(Due.cloth("y00 g01"), 3, 0, 0, 0, 0, 0, 0, 0);
        waysIs(Due.cloth("y-- b01"), 1, 1, 0, 1, 5, 5, 5, 5);
        waysIs(Due.cloth("y-- l01"), 1, 1, 0, 2, 7, 7, 7, 7);
        waysIs(Due.cloth("y-----"), 0, 2, 0, 1, 21, 171, 671, 1296);
        waysIs(Due.cloth("y01 b01"), 1, 1, 0, 1, 1, 1, 1, 1);
        SewnAhead x = Due.cloth("y0-");
        x.unpick(0);
        waysIs(x, 3, 0, 0, 1, 6, 6, 6, 6);
    }

    private static void waysRefused() {
        SewnAhead x = Due.cloth("y--");
        x.ways(4, 1, 5);
        due.refuses("ways(5, 0, 0)", x, BAD, () -> x.ways(5, 0, 0));
        due.refuses("ways(-1, 0, 0)", x, BAD, () -> x.ways(-1, 0, 0));
        due.refuses("ways(0, 2, 0)", x, BAD, () -> x.ways(0, 2, 0));
        due.refuses("ways(0, -1, 0)", x, BAD, () -> x.ways(0, -1, 0));
        for (int n : new int[] {-1, 6, MAX, MIN}) {
            due.refuses("ways(0, 0, " + n + ")", x, BAD, () -> x.ways(0, 0, n));
        }
        SewnAhead none = new SewnAhead();
        due.refuses("ways(0, 0, 0), no YEARS", none, BAD, () -> none.ways(0, 0, 0));
    }

    private static void avertIs(SewnAhead x, int scene, int... plan) {
        int stitches = 0;
        for (int change : plan) {
            stitches += change == 6 ? 0 : 1;
        }
        int before = x.count(2);
        due.is("avert(" + scene + ", 5)", x.avert(scene, 5), stitches);
        due.row("avert(" + scene + ", 5)", x, 5, plan);
        due.is("avert, count(2)", x.count(2), before);
    }

    private static void avert() {
        avertIs(Due.cloth("y0-"), 0, 5, 6);
        avertIs(Due.cloth("y0-"), 1, 6, 6);
        avertIs(Due.cloth("y0- l01"), 1, 5, 6);
        avertIs(Due.cloth("y0- l01 g03 k34 b33"), 1, 5, 6);
        avertIs(Due.cloth("y0- l01 g01"), 1, 6, 0);
        avertIs(Due.cloth("y0- l01 b01"), 3, 5, 6);
        avertIs(Due.cloth("y0-0- l01"), 0, 5, 6, 5, 6);
        avertIs(Due.cloth("y0-0- l01 b23 g02"), 1, 5, 6, 5, 6);
        avertIs(Due.cloth("y0- l01 g01 b00"), 1, 6, 2);
        SewnAhead x = Due.cloth("y00 g00");
        Due.fill(x, 1, 7, 8, 9);
        long before = x.digest();
        due.is("avert, never", x.avert(0, 1), NONE);
        due.is("avert, never, into a missing one", x.avert(0, 2), NONE);
        due.is("avert, never, changes nothing", x.digest(), before);
        x.row(5, 40);
        avertIs(x, 4, 6, 6);
    }

    private static void avertRefused() {
        SewnAhead x = Due.cloth("y0-");
        due.refuses("avert(5, 0)", x, BAD, () -> x.avert(5, 0));
        due.refuses("avert(-1, 0)", x, BAD, () -> x.avert(-1, 0));
        due.refuses("avert(0, 6)", x, BAD, () -> x.avert(0, 6));
        due.refuses("avert(0, -1)", x, BAD, () -> x.avert(0, -1));
        SewnAhead none = new SewnAhead();
        due.refuses("avert(0, 0), no YEARS", none, STATE, () -> none.avert(0, 0));
        due.refuses("avert(5, 0), no YEARS", none, BAD, () -> none.avert(5, 0));
        due.refuses("avert(0, 6), no YEARS", none, BAD, () -> none.avert(0, 6));
    }

    private static void judgeIs(SewnAhead x, int brokenLaws, int years, int... plan) {
        Due.fill(x, 0, plan);
        long before = x.digest();
        due.is("judge(0)", x.judge(0), brokenLaws);
        due.is("judge(0), then asked()", x.asked(), years);
        due.is("judge changes nothing", x.digest(), before);
    }

    private static void judge() {
        SewnAhead x = Due.cloth("y0- l01 b01 k10");
        judgeIs(x, 2, 3, 6, 6);
        judgeIs(x, 0, 2, 5, 1);
        judgeIs(x, 0, 0, 5, 6);
        judgeIs(x, 0, 3, 6, 4);
        x.unpick(0);
        judgeIs(x, 2, 3, 0, 6);
        judgeIs(x, 0, 0, 6, 6);
        judgeIs(x, 0, 1, 4, 6);
        judgeIs(x, 0, 3, 1, 2);
        judgeIs(Due.cloth("y01--- e02 g12"), 0, 7, 6, 5, 6, 6, 6);
        judgeIs(Due.cloth("y01--- e02 g12 l34"), 0, 31, 6, 6, 6, 3, 6);
    }

    private static void judgeRefused() {
        SewnAhead x = Due.cloth("y0-");
        x.unpick(0);
        x.sew(0, 0);
        due.refuses("judge(-1)", x, BAD, () -> x.judge(-1));
        due.refuses("judge(6)", x, BAD, () -> x.judge(6));
        due.finds("judge(0), missing", x, NOTHING, () -> x.judge(0));
        for (int[] plan : new int[][] {{}, {6}, {6, 6, 6}, {9, 9, 9}}) {
            Due.fill(x, 0, plan);
            due.finds("judge, a SIZE", x, SIZE, () -> x.judge(0));
        }
        for (int[] plan : new int[][] {{0, 6}, {4, 6}, {7, 6}, {-1, 6}, {-9, 6}, {6, 5}, {6, 7}, {6, -1},
                {6, -9}, {6, MAX}, {6, MIN}, {MAX, 6}, {MIN, 6}}) {
            Due.fill(x, 0, plan);
            due.finds("judge " + plan[0] + ", " + plan[1], x, UNLIKE, () -> x.judge(0));
        }
        SewnAhead hole = Due.cloth("y0-");
        hole.unpick(0);
        Due.fill(hole, 0, 5, 6);
        due.finds("judge, a HOLE UNPICKED", hole, UNLIKE, () -> hole.judge(0));
        SewnAhead none = new SewnAhead();
        due.refuses("judge(0), no YEARS", none, STATE, () -> none.judge(0));
        due.refuses("judge(6), no YEARS", none, BAD, () -> none.judge(6));
    }
}
