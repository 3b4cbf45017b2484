/** The edges that the document names in promises 1 to 7 and for ROWS in its Terms, a sentence each. */
public final class EdgesRowsTest {
    private static final Due due = new Due("EdgesRowsTest");
    private static final int BAD = SewnAhead.BAD, NONE = SewnAhead.NONE;
    private static final int MAX = Integer.MAX_VALUE, MIN = Integer.MIN_VALUE;
    private static final int NOTHING = 1, BEYOND = 2, NOUGHT = 4, SIZE = 5;
    private static final int[] NO_ROWS = {-1, 6, 7, NONE, MAX, MIN};

    public static void main(String[] args) {
        newObject();
        rowsThereAre();
        row();
        layAndAt();
        tear();
        copy();
        copyOntoItself();
        copyRefused();
        copyOrder();
        mean();
        due.end();
    }

    private static SewnAhead three() {
        SewnAhead x = new SewnAhead();
        x.row(0, 40);
        Due.fill(x, 0, 5, 6, 7);
        x.row(1, 0);
        Due.fill(x, 2, 1, 2, 3, 4, 5);
        x.at(0, 1);
        return x;
    }

    private static SewnAhead whole(int r, int v) {
        SewnAhead x = new SewnAhead();
        x.row(r, 40);
        for (int i = 0; i < 40; i++) {
            x.lay(r, i, v);
        }
        return x;
    }

    private static void newObject() {
        due.sentence("1 A new object: No ROWS, TEXTS, YEARS, LAWS");
        for (int r = 0; r < 6; r++) {
            int row = r;
            due.found("at(" + r + ", 0)", NOTHING, SewnAhead::new, x -> x.at(row, 0));
        }
        for (int t = 0; t < 4; t++) {
            int text = t;
            due.found("put(" + t + ", 0, 1)", NOTHING, SewnAhead::new, x -> x.put(text, 0, 1));
        }
        due.bad("year(0, 0)", SewnAhead::new, x -> x.year(0, 0));
        due.bad("law(0, 0)", SewnAhead::new, x -> x.law(0, 0));
        for (int what = 0; what <= 8; what++) {
            due.is("count(" + what + ")", new SewnAhead().count(what), 0);
        }
        due.sentence("1 A new object: another one has nothing to do with it");
        SewnAhead used = Due.rich();
        SewnAhead x = new SewnAhead();
        due.is("digest()", x.digest(), Due.fold(0, 0, 0, 0, 0, 0, 0, 0, 0,
                -1, -1, -1, -1, -1, -1, -1, -1, -1, -1, -1, -1, -1));
        due.is("asked()", x.asked(), 0);
        due.fraction("new", x, 0, 1);
        due.is("finding()", x.finding(), 0);
        due.is("findings(1)", x.findings(1), 0);
        x.row(0, 1);
        x.lay(0, 0, 99);
        due.tells("at(0, 0) of the one before", used, 7, () -> used.at(0, 0));
    }

    private static void rowsThereAre() {
        due.sentence("ROWS 0 .. 5");
        for (int r = 0; r < 6; r++) {
            SewnAhead x = new SewnAhead();
            due.is("row(" + r + ", 2)", x.row(r, 2), 2);
            due.is("count(6)", x.count(6), 1);
        }
        for (int r : NO_ROWS) {
            due.bad("row(" + r + ", 2)", EdgesRowsTest::three, x -> x.row(r, 2));
            due.bad("lay(" + r + ", 0, 1)", EdgesRowsTest::three, x -> x.lay(r, 0, 1));
            due.bad("at(" + r + ", 0)", EdgesRowsTest::three, x -> x.at(r, 0));
            due.bad("tear(" + r + ")", EdgesRowsTest::three, x -> x.tear(r));
            due.bad("copy(" + r + ", 0, 0, 0, 1)", EdgesRowsTest::three, x -> x.copy(r, 0, 0, 0, 1));
            due.bad("copy(0, 0, " + r + ", 0, 1)", EdgesRowsTest::three, x -> x.copy(0, 0, r, 0, 1));
            due.bad("mean(" + r + ")", EdgesRowsTest::three, x -> x.mean(r));
        }
        due.sentence("rows of 0 to 40 ints");
        SewnAhead x = new SewnAhead();
        due.is("row(0, 0)", x.row(0, 0), 0);
        due.row("row(0, 0)", x, 0);
        due.is("row(0, 40)", x.row(0, 40), 40);
        due.row("row(0, 40)", x, 0, new int[40]);
        due.sentence("or missing (at first)");
        due.is("row(3, 0)", x.row(3, 0), 0);
        due.is("count(6): one of no ints is there", x.count(6), 2);
    }

    private static void row() {
        due.sentence("2 row: A ROW is there with n ints 0: n");
        SewnAhead x = whole(4, 9);
        due.is("row(4, 3)", x.row(4, 3), 3);
        due.row("row(4, 3), smaller", x, 4, 0, 0, 0);
        x.lay(4, 2, 8);
        due.is("row(4, 40)", x.row(4, 40), 40);
        due.row("row(4, 40), larger", x, 4, new int[40]);
        x.lay(4, 39, 8);
        due.is("row(4, 40)", x.row(4, 40), 40);
        due.row("row(4, 40), as large", x, 4, new int[40]);
        due.is("count(6)", x.count(6), 1);
        due.sentence("2 row: BAD: also n above 40");
        for (int n : new int[] {41, 42, 60, MAX}) {
            due.bad("row(0, " + n + ")", EdgesRowsTest::three, z -> z.row(0, n));
            due.bad("row(5, " + n + "), missing", EdgesRowsTest::three, z -> z.row(5, n));
        }
        due.sentence("2 row: SIZE: below 0");
        for (int n : new int[] {-1, -2, NONE, MIN}) {
            due.found("row(0, " + n + ")", SIZE, EdgesRowsTest::three, z -> z.row(0, n));
            due.found("row(5, " + n + "), missing", SIZE, EdgesRowsTest::three, z -> z.row(5, n));
            due.bad("row(6, " + n + ")", EdgesRowsTest::three, z -> z.row(6, n));
        }
    }

    private static void layAndAt() {
        due.sentence("3 lay: Place i of a ROW is v: what it was, told by asked(): 1");
        SewnAhead x = new SewnAhead();
        x.row(5, 40);
        for (int i : new int[] {0, 39}) {
            due.tells("lay(5, " + i + ", MIN)", x, 0, () -> x.lay(5, i, MIN));
            due.tells("lay(5, " + i + ", MAX)", x, MIN, () -> x.lay(5, i, MAX));
            due.tells("lay(5, " + i + ", -1)", x, MAX, () -> x.lay(5, i, -1));
            due.tells("lay(5, " + i + ", -9)", x, -1, () -> x.lay(5, i, -9));
            due.tells("lay(5, " + i + ", 0)", x, -9, () -> x.lay(5, i, 0));
        }
        due.sentence("4 at: Place i of a ROW, told by asked(): 1");
        x.lay(5, 0, MIN);
        x.lay(5, 39, MAX);
        due.tells("at(5, 0)", x, MIN, () -> x.at(5, 0));
        due.tells("at(5, 39)", x, MAX, () -> x.at(5, 39));
        due.tells("at(5, 1)", x, 0, () -> x.at(5, 1));
        due.sentence("3 lay, 4 at: NOTHING");
        for (int i : new int[] {0, -1, 40}) {
            due.found("lay(3, " + i + ", 1), missing", NOTHING, EdgesRowsTest::three, z -> z.lay(3, i, 1));
            due.found("at(3, " + i + "), missing", NOTHING, EdgesRowsTest::three, z -> z.at(3, i));
        }
        due.sentence("3 lay, 4 at: BEYOND");
        for (int i : new int[] {-1, 3, 4, 39, 40, MAX, MIN}) {
            due.found("lay(0, " + i + ", 1)", BEYOND, EdgesRowsTest::three, z -> z.lay(0, i, 1));
            due.found("at(0, " + i + ")", BEYOND, EdgesRowsTest::three, z -> z.at(0, i));
        }
        due.found("lay(1, 0, 1), none there", BEYOND, EdgesRowsTest::three, z -> z.lay(1, 0, 1));
        due.found("at(1, 0), none there", BEYOND, EdgesRowsTest::three, z -> z.at(1, 0));
        due.found("lay(0, 40, 1), full", BEYOND, () -> whole(0, 2), z -> z.lay(0, 40, 1));
        due.found("at(0, 40), full", BEYOND, () -> whole(0, 2), z -> z.at(0, 40));
    }

    private static void tear() {
        due.sentence("5 tear: A ROW is missing: 1");
        SewnAhead x = three();
        due.is("tear(0)", x.tear(0), 1);
        due.is("tear(1), of no ints", x.tear(1), 1);
        due.is("count(6)", x.count(6), 1);
        due.row("tear leaves others", x, 2, 1, 2, 3, 4, 5);
        due.is("row(0, 3)", x.row(0, 3), 3);
        due.row("row(0, 3) behind tear(0)", x, 0, 0, 0, 0);
        due.sentence("5 tear: NOTHING");
        due.found("tear(3), missing", NOTHING, EdgesRowsTest::three, z -> z.tear(3));
        due.finds("tear(1), torn", x, NOTHING, () -> x.tear(1));
    }

    private static void copy() {
        due.sentence("6 copy: n places of a ROW, from one on, come to those of another one from one on: 1");
        SewnAhead x = three();
        due.is("copy(2, 0, 0, 0, 3)", x.copy(2, 0, 0, 0, 3), 1);
        due.row("copy, from the first on", x, 0, 1, 2, 3);
        due.is("copy(2, 2, 0, 0, 3)", x.copy(2, 2, 0, 0, 3), 1);
        due.row("copy, to the last", x, 0, 3, 4, 5);
        due.is("copy(2, 0, 0, 2, 1)", x.copy(2, 0, 0, 2, 1), 1);
        due.row("copy, onto the last", x, 0, 3, 4, 1);
        due.row("copy leaves what it takes", x, 2, 1, 2, 3, 4, 5);
        due.is("asked()", x.asked(), 5);
        SewnAhead all = whole(0, 6);
        all.row(5, 40);
        due.is("copy(0, 0, 5, 0, 40)", all.copy(0, 0, 5, 0, 40), 1);
        due.tells("at(5, 0)", all, 6, () -> all.at(5, 0));
        due.tells("at(5, 39)", all, 6, () -> all.at(5, 39));
        due.sentence("6 copy: SIZE: n below 0 (none is not below)");
        SewnAhead none = three();
        long before = none.digest();
        due.is("copy(2, 0, 0, 0, 0)", none.copy(2, 0, 0, 0, 0), 1);
        due.is("copy(2, 5, 0, 3, 0), behind the last", none.copy(2, 5, 0, 3, 0), 1);
        due.is("copy(1, 0, 1, 0, 0), of no ints", none.copy(1, 0, 1, 0, 0), 1);
        due.is("digest()", none.digest(), before);
        for (int n : new int[] {-1, -2, MIN, MIN + 1}) {
            due.found("copy(2, 0, 0, 0, " + n + ")", SIZE, EdgesRowsTest::three, z -> z.copy(2, 0, 0, 0, n));
            due.found("copy(2, 3, 0, 3, " + n + ")", SIZE, EdgesRowsTest::three, z -> z.copy(2, 3, 0, 3, n));
        }
    }

    private static void copyOntoItself() {
        due.sentence("6 copy: (perhaps itself), as if taken ahead");
        SewnAhead x = three();
        due.is("copy(2, 0, 2, 1, 4)", x.copy(2, 0, 2, 1, 4), 1);
        due.row("copy, one behind", x, 2, 1, 1, 2, 3, 4);
        SewnAhead z = three();
        due.is("copy(2, 1, 2, 0, 4)", z.copy(2, 1, 2, 0, 4), 1);
        due.row("copy, one ahead", z, 2, 2, 3, 4, 5, 5);
        due.is("copy(2, 0, 2, 0, 5)", z.copy(2, 0, 2, 0, 5), 1);
        due.row("copy, where it is", z, 2, 2, 3, 4, 5, 5);
        SewnAhead w = three();
        due.is("copy(2, 0, 2, 2, 3)", w.copy(2, 0, 2, 2, 3), 1);
        due.row("copy, two behind", w, 2, 1, 2, 1, 2, 3);
    }

    private static void copyRefused() {
        due.sentence("6 copy: NOTHING: either");
        due.found("copy(3, 0, 0, 0, 1)", NOTHING, EdgesRowsTest::three, x -> x.copy(3, 0, 0, 0, 1));
        due.found("copy(0, 0, 3, 0, 1)", NOTHING, EdgesRowsTest::three, x -> x.copy(0, 0, 3, 0, 1));
        due.found("copy(3, 0, 4, 0, 1)", NOTHING, EdgesRowsTest::three, x -> x.copy(3, 0, 4, 0, 1));
        due.found("copy(3, 0, 3, 0, 0)", NOTHING, EdgesRowsTest::three, x -> x.copy(3, 0, 3, 0, 0));
        due.sentence("6 copy: BEYOND: not so many there");
        // of ROW 2 five, of ROW 0 three places: i, j, n
        int[][] beyond = {{-1, 0, 1}, {0, -1, 1}, {3, 0, 3}, {5, 0, 1}, {0, 0, 4}, {0, 2, 2}, {0, 3, 1}, {6, 0, 0},
            {0, 4, 0}, {-1, 0, 0}, {0, -1, 0}, {0, 0, 6}, {0, 0, 41}, {0, 0, MAX}};
        // such that i + n or j + n would wrap around
        int[][] wrapped = {{MAX, 0, 1}, {0, MAX, 1}, {1, 0, MAX}, {0, 1, MAX}, {MAX, MAX, MAX}, {MAX, 0, 2},
            {MIN, 0, 1}, {0, MIN, 1}, {MIN, MIN, MAX}, {MIN, 0, MAX}, {MAX, MAX, 0}, {MIN, MIN, 0}};
        for (int[][] some : new int[][][] {beyond, wrapped}) {
            for (int[] c : some) {
                due.found("copy(2, " + c[0] + ", 0, " + c[1] + ", " + c[2] + ")", BEYOND, EdgesRowsTest::three,
                        x -> x.copy(2, c[0], 0, c[1], c[2]));
            }
        }
        due.found("copy(1, 0, 0, 0, 1), none there", BEYOND, EdgesRowsTest::three, x -> x.copy(1, 0, 0, 0, 1));
        due.found("copy(0, 0, 1, 0, 1), none there", BEYOND, EdgesRowsTest::three, x -> x.copy(0, 0, 1, 0, 1));
        due.found("copy(0, 0, 0, 0, 41), full", BEYOND, () -> whole(0, 1), x -> x.copy(0, 0, 0, 0, 41));
        due.found("copy(0, 1, 0, 0, 40), full", BEYOND, () -> whole(0, 1), x -> x.copy(0, 1, 0, 0, 40));
    }

    private static void copyOrder() {
        due.sentence("6 copy: BAD; SIZE; NOTHING; BEYOND, the first of these that fits");
        due.bad("copy(6, 9, 3, 9, -1)", EdgesRowsTest::three, x -> x.copy(6, 9, 3, 9, -1));
        due.bad("copy(3, 9, 6, 9, -1)", EdgesRowsTest::three, x -> x.copy(3, 9, 6, 9, -1));
        due.found("copy(3, 9, 0, 9, -1)", SIZE, EdgesRowsTest::three, x -> x.copy(3, 9, 0, 9, -1));
        due.found("copy(0, 9, 3, 9, -1)", SIZE, EdgesRowsTest::three, x -> x.copy(0, 9, 3, 9, -1));
        due.found("copy(3, 9, 0, 9, 1)", NOTHING, EdgesRowsTest::three, x -> x.copy(3, 9, 0, 9, 1));
        due.found("copy(0, 9, 3, 9, 1)", NOTHING, EdgesRowsTest::three, x -> x.copy(0, 9, 3, 9, 1));
    }

    private static void meanIs(int want, int... values) {
        SewnAhead x = new SewnAhead();
        Due.fill(x, 3, values);
        long before = x.digest();
        due.tells("mean of " + java.util.Arrays.toString(values), x, want, () -> x.mean(3));
        due.is("digest()", x.digest(), before);
    }

    private static void mean() {
        due.sentence("7 mean: The mean of a ROW's ints, cut");
        meanIs(5, 5);
        meanIs(1, 1, 2);
        meanIs(2, 1, 2, 3);
        meanIs(0, 1, 0, 0);
        meanIs(0, -1, 0, 0);
        meanIs(-1, -1, -2);
        meanIs(-2, -2, -3, -3);
        meanIs(0, 5, -5);
        meanIs(0, MAX, MIN);
        due.sentence("7 mean: of ints whose sum is above or below any int");
        meanIs(MAX, MAX, MAX);
        meanIs(MIN, MIN, MIN);
        meanIs(MAX - 1, MAX, MAX - 1);
        meanIs(MIN, MIN);
        SewnAhead most = whole(0, MAX);
        due.tells("mean of 40 MAX", most, MAX, () -> most.mean(0));
        SewnAhead least = whole(0, MIN);
        due.tells("mean of 40 MIN", least, MIN, () -> least.mean(0));
        due.sentence("7 mean: NOTHING");
        due.found("mean(3), missing", NOTHING, EdgesRowsTest::three, x -> x.mean(3));
        due.sentence("7 mean: NOUGHT");
        due.found("mean(1), of no ints", NOUGHT, EdgesRowsTest::three, x -> x.mean(1));
        due.is("mean(6)", three().mean(6), BAD);
    }
}
