/** Promises 1 to 7: a new object, row, lay, at, tear, copy, mean. */
public final class RowsTest {
    private static final Due due = new Due("RowsTest");
    private static final int BAD = SewnAhead.BAD, MAX = Integer.MAX_VALUE, MIN = Integer.MIN_VALUE;
    private static final int NOTHING = 1, BEYOND = 2, NOUGHT = 4, SIZE = 5;

    public static void main(String[] args) {
        newObject();
        row();
        layAndAt();
        tear();
        copy();
        mean();
        due.end();
    }

    private static void newObject() {
        SewnAhead x = new SewnAhead();
        for (int what = 0; what <= 8; what++) {
            due.is("new, count(" + what + ")", x.count(what), 0);
        }
        due.is("new, asked()", x.asked(), 0);
        due.fraction("new", x, 0, 1);
        due.is("new, finding()", x.finding(), 0);
        for (int f = 1; f <= 5; f++) {
            due.is("new, findings(" + f + ")", x.findings(f), 0);
        }
        due.is("new, digest()", x.digest(), Due.fold(0, 0, 0, 0, 0, 0, 0, 0, 0,
                -1, -1, -1, -1, -1, -1, -1, -1, -1, -1, -1, -1, -1));
        for (int r = 0; r < 6; r++) {
            int at = r;
            due.finds("new, at", x, NOTHING, () -> x.at(at, 0));
        }
        for (int t = 0; t < 4; t++) {
            int at = t;
            due.finds("new, fault", x, NOTHING, () -> x.fault(at));
        }
    }

    private static void row() {
        SewnAhead x = new SewnAhead();
        due.is("row(0, 0)", x.row(0, 0), 0);
        due.is("row(5, 40)", x.row(5, 40), 40);
        due.is("row(2, 3)", x.row(2, 3), 3);
        due.row("row(2, 3)", x, 2, 0, 0, 0);
        due.is("count(6)", x.count(6), 3);
        x.lay(2, 1, 7);
        due.is("row(2, 2) anew", x.row(2, 2), 2);
        due.row("row(2, 2) anew", x, 2, 0, 0);
        due.is("row(2, 3) anew", x.row(2, 3), 3);
        due.row("row(2, 3) anew", x, 2, 0, 0, 0);
        x.lay(2, 0, 5);
        due.refuses("row(-1, 1)", x, BAD, () -> x.row(-1, 1));
        due.refuses("row(6, 1)", x, BAD, () -> x.row(6, 1));
        due.refuses("row(2, 41)", x, BAD, () -> x.row(2, 41));
        due.refuses("row(2, MAX)", x, BAD, () -> x.row(2, MAX));
        due.refuses("row(6, -1)", x, BAD, () -> x.row(6, -1));
        due.finds("row(2, -1)", x, SIZE, () -> x.row(2, -1));
        due.finds("row(2, MIN)", x, SIZE, () -> x.row(2, MIN));
        due.finds("row(3, -1)", x, SIZE, () -> x.row(3, -1));
        due.row("row refused", x, 2, 5, 0, 0);
        due.is("row refused, count(6)", x.count(6), 3);
    }

    private static void layAndAt() {
        SewnAhead x = new SewnAhead();
        due.finds("lay(0, 0, 1), missing", x, NOTHING, () -> x.lay(0, 0, 1));
        due.finds("at(0, 0), missing", x, NOTHING, () -> x.at(0, 0));
        x.row(0, 3);
        due.tells("lay(0, 2, MAX)", x, 0, () -> x.lay(0, 2, MAX));
        due.tells("lay(0, 2, MIN)", x, MAX, () -> x.lay(0, 2, MIN));
        due.tells("lay(0, 0, -9)", x, 0, () -> x.lay(0, 0, -9));
        due.tells("at(0, 2)", x, MIN, () -> x.at(0, 2));
        due.tells("at(0, 1)", x, 0, () -> x.at(0, 1));
        due.tells("at(0, 0)", x, -9, () -> x.at(0, 0));
        due.row("lay", x, 0, -9, 0, MIN);
        due.refuses("lay(-1, 0, 1)", x, BAD, () -> x.lay(-1, 0, 1));
        due.refuses("lay(6, 0, 1)", x, BAD, () -> x.lay(6, 0, 1));
        due.refuses("at(-1, 0)", x, BAD, () -> x.at(-1, 0));
        due.refuses("at(6, 0)", x, BAD, () -> x.at(6, 0));
        for (int i : new int[] {-1, 3, 39, 40, MAX, MIN}) {
            due.finds("lay(0, " + i + ", 1)", x, BEYOND, () -> x.lay(0, i, 1));
            due.finds("at(0, " + i + ")", x, BEYOND, () -> x.at(0, i));
        }
        due.finds("lay(1, 50, 1), missing", x, NOTHING, () -> x.lay(1, 50, 1));
        due.row("lay refused", x, 0, -9, 0, MIN);
    }

    private static void tear() {
        SewnAhead x = new SewnAhead();
        due.finds("tear(0), missing", x, NOTHING, () -> x.tear(0));
        x.row(0, 2);
        x.row(5, 0);
        due.is("tear(0)", x.tear(0), 1);
        due.is("tear(5)", x.tear(5), 1);
        due.is("tear, count(6)", x.count(6), 0);
        due.finds("tear(0) again", x, NOTHING, () -> x.tear(0));
        due.finds("at(0, 0), torn", x, NOTHING, () -> x.at(0, 0));
        due.refuses("tear(-1)", x, BAD, () -> x.tear(-1));
        due.refuses("tear(6)", x, BAD, () -> x.tear(6));
    }

    private static void copy() {
        SewnAhead x = new SewnAhead();
        Due.fill(x, 0, 1, 2, 3, 4, 5);
        Due.fill(x, 1, 10, 20, 30);
        due.is("copy(0, 1, 1, 0, 2)", x.copy(0, 1, 1, 0, 2), 1);
        due.row("copy to another", x, 1, 2, 3, 30);
        due.row("copy from", x, 0, 1, 2, 3, 4, 5);
        due.is("copy(0, 0, 0, 1, 4)", x.copy(0, 0, 0, 1, 4), 1);
        due.row("copy onto itself, behind", x, 0, 1, 1, 2, 3, 4);
        due.is("copy(0, 1, 0, 0, 4)", x.copy(0, 1, 0, 0, 4), 1);
        due.row("copy onto itself, ahead", x, 0, 1, 2, 3, 4, 4);
        due.is("copy(0, 5, 1, 3, 0)", x.copy(0, 5, 1, 3, 0), 1);
        due.is("copy(1, 0, 0, 2, 3)", x.copy(1, 0, 0, 2, 3), 1);
        due.row("copy all", x, 0, 1, 2, 2, 3, 30);
        copyRefused(x);
        due.row("copy refused, 0", x, 0, 1, 2, 2, 3, 30);
        due.row("copy refused, 1", x, 1, 2, 3, 30);
    }

    private static void copyRefused(SewnAhead x) {
        due.refuses("copy(-1, 0, 1, 0, 1)", x, BAD, () -> x.copy(-1, 0, 1, 0, 1));
        due.refuses("copy(0, 0, 6, 0, 1)", x, BAD, () -> x.copy(0, 0, 6, 0, 1));
        due.refuses("copy(6, 0, 0, 0, -1)", x, BAD, () -> x.copy(6, 0, 0, 0, -1));
        due.refuses("copy(0, 0, -1, 0, 1)", x, BAD, () -> x.copy(0, 0, -1, 0, 1));
        due.finds("copy(0, 0, 1, 0, -1)", x, SIZE, () -> x.copy(0, 0, 1, 0, -1));
        due.finds("copy(0, 0, 1, 0, MIN)", x, SIZE, () -> x.copy(0, 0, 1, 0, MIN));
        due.finds("copy(5, 0, 1, 0, -1)", x, SIZE, () -> x.copy(5, 0, 1, 0, -1));
        due.finds("copy(5, 9, 1, 0, 0)", x, NOTHING, () -> x.copy(5, 9, 1, 0, 0));
        due.finds("copy(1, 9, 5, 0, 0)", x, NOTHING, () -> x.copy(1, 9, 5, 0, 0));
        due.finds("copy(0, 0, 1, 0, 4)", x, BEYOND, () -> x.copy(0, 0, 1, 0, 4));
        due.finds("copy(1, 0, 0, 0, 4)", x, BEYOND, () -> x.copy(1, 0, 0, 0, 4));
        due.finds("copy(0, 5, 1, 0, 1)", x, BEYOND, () -> x.copy(0, 5, 1, 0, 1));
        due.finds("copy(0, 0, 1, 3, 1)", x, BEYOND, () -> x.copy(0, 0, 1, 3, 1));
        due.finds("copy(0, -1, 1, 0, 1)", x, BEYOND, () -> x.copy(0, -1, 1, 0, 1));
        due.finds("copy(0, 0, 1, -1, 1)", x, BEYOND, () -> x.copy(0, 0, 1, -1, 1));
        due.finds("copy(0, MAX, 1, 0, 1)", x, BEYOND, () -> x.copy(0, MAX, 1, 0, 1));
        due.finds("copy(0, 1, 1, 0, MAX)", x, BEYOND, () -> x.copy(0, 1, 1, 0, MAX));
        due.finds("copy(0, 6, 1, 0, 0)", x, BEYOND, () -> x.copy(0, 6, 1, 0, 0));
    }

    private static void mean() {
        SewnAhead x = new SewnAhead();
        due.finds("mean(0), missing", x, NOTHING, () -> x.mean(0));
        Due.fill(x, 0, 3, 4);
        due.tells("mean of 3, 4", x, 3, () -> x.mean(0));
        Due.fill(x, 0, -3, -4);
        due.tells("mean of -3, -4", x, -3, () -> x.mean(0));
        Due.fill(x, 0, -7, 1, 2);
        due.tells("mean of -7, 1, 2", x, -1, () -> x.mean(0));
        Due.fill(x, 0, MAX, MAX, MAX);
        due.tells("mean of the greatest", x, MAX, () -> x.mean(0));
        Due.fill(x, 0, MIN, MIN);
        due.tells("mean of the least", x, MIN, () -> x.mean(0));
        Due.fill(x, 0, 8);
        due.tells("mean of 8", x, 8, () -> x.mean(0));
        x.row(1, 0);
        due.finds("mean of none", x, NOUGHT, () -> x.mean(1));
        due.is("mean refused, asked()", x.asked(), 8);
        due.refuses("mean(-1)", x, BAD, () -> x.mean(-1));
        due.refuses("mean(6)", x, BAD, () -> x.mean(6));
    }
}
