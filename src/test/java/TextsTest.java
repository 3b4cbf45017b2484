/** Promises 8 to 11: text, put, fault, cloth. */
public final class TextsTest {
    private static final Due due = new Due("TextsTest");
    private static final int BAD = SewnAhead.BAD, STATE = SewnAhead.STATE, NONE = SewnAhead.NONE;
    private static final int MAX = Integer.MAX_VALUE, MIN = Integer.MIN_VALUE;
    private static final int NOTHING = 1, BEYOND = 2, SIZE = 5;

    public static void main(String[] args) {
        text();
        put();
        faults();
        faultRefused();
        cloth();
        clothAnew();
        due.end();
    }

    private static void text() {
        SewnAhead x = new SewnAhead();
        due.is("text(0, 0)", x.text(0, 0), 0);
        due.is("text(3, 60)", x.text(3, 60), 60);
        due.is("text(1, 2)", x.text(1, 2), 2);
        due.is("count(7)", x.count(7), 3);
        due.is("put(1, 1, 65), a blank", x.put(1, 1, 65), 1032);
        due.is("text(1, 2) anew", x.text(1, 2), 2);
        due.is("put(1, 1, 65), a blank anew", x.put(1, 1, 65), 1032);
        due.is("put(3, 59, 65), the last", x.put(3, 59, 65), 1032);
        due.refuses("text(-1, 1)", x, BAD, () -> x.text(-1, 1));
        due.refuses("text(4, 1)", x, BAD, () -> x.text(4, 1));
        due.refuses("text(1, 61)", x, BAD, () -> x.text(1, 61));
        due.refuses("text(1, MAX)", x, BAD, () -> x.text(1, MAX));
        due.refuses("text(4, -1)", x, BAD, () -> x.text(4, -1));
        due.finds("text(1, -1)", x, SIZE, () -> x.text(1, -1));
        due.finds("text(2, MIN)", x, SIZE, () -> x.text(2, MIN));
        due.is("text refused, put(1, 1, 0)", x.put(1, 1, 0), 1065);
        due.is("text refused, count(7)", x.count(7), 3);
    }

    private static void put() {
        SewnAhead x = new SewnAhead();
        due.finds("put(0, 0, 1), missing", x, NOTHING, () -> x.put(0, 0, 1));
        x.text(0, 2);
        int[] values = {0, 127, 128, 255, 256, 300, -1, -128, -129, MAX, MIN};
        int[] bytes = {0, 127, -128, -1, 0, 44, -1, -128, 127, -1, 0};
        int before = 32;
        for (int i = 0; i < values.length; i++) {
            due.is("put(0, 1, " + values[i] + ")", x.put(0, 1, values[i]), before + 1000);
            before = bytes[i];
        }
        due.is("put(0, 0, 1), another place", x.put(0, 0, 1), 1032);
        due.is("put, asked()", x.asked(), 0);
        due.refuses("put(-1, 0, 1)", x, BAD, () -> x.put(-1, 0, 1));
        due.refuses("put(4, 0, 1)", x, BAD, () -> x.put(4, 0, 1));
        for (int i : new int[] {-1, 2, 59, 60, MAX, MIN}) {
            due.finds("put(0, " + i + ", 1)", x, BEYOND, () -> x.put(0, i, 1));
        }
        due.finds("put(1, 99, 1), missing", x, NOTHING, () -> x.put(1, 99, 1));
        x.put(0, 1, 200);
        due.is("put, digest()", x.digest(), Due.fold(0, 0, 0, 0, 0, 0, 0, 1, 0,
                -1, -1, -1, -1, -1, -1, -1, -1, -1, 2, 1, -56, -1, -1, -1));
    }

    private static void fault(String signs, int want) {
        SewnAhead x = new SewnAhead();
        Due.write(x, 2, signs);
        due.is("fault of '" + signs + "'", x.fault(2), want);
        due.is("cloth of '" + signs + "'", x.cloth(2) >= 2 ? 1 : 0, want == NONE ? 1 : 0);
    }

    private static void faults() {
        // the YEARS
        fault("", 0);
        fault("   ", 3);
        fault(" ".repeat(60), 60);
        fault("x", 0);
        fault("  x", 2);
        fault("Y01", 0);
        fault("l00", 0);
        fault("01", 0);
        fault("y", 1);
        fault("y ", 1);
        fault("y 01", 1);
        fault("y0", 2);
        fault("y0 ", 2);
        fault("y0 1", 2);
        fault("y-", 2);
        fault("y05", 2);
        fault("y5", 1);
        fault("y0l00", 2);
        fault("y0/", 2);
        fault("y0:", 2);
        fault("y01", NONE);
        fault("y--", NONE);
        fault("y-4", NONE);
        fault("  y01  ", NONE);
        fault("y01234", NONE);
        fault("y-----", NONE);
        fault("y012340", 6);
        fault("y01234-", 6);
        fault("y012345", 6);
        fault("y01234 0", 7);
        fault("y015", 3);
        fault("y01 2", 4);
        fault("y01 -", 4);
        fault("y01y01", 3);
        fault("y01 y01", 4);
        fault("y01\t", 3);
        fault("y01\n", 3);
        // the LAWS
        fault("y01l00", NONE);
        fault("y01l00b11g22e33k44s04", NONE);
        fault("y01  l00   b11 g22e33 k44 s04 ", NONE);
        fault("y01a00", 3);
        fault("y01L00", 3);
        fault("y01l", 4);
        fault("y01l ", 4);
        fault("y01l 00", 4);
        fault("y01l5", 4);
        fault("y01l-0", 4);
        fault("y01ll0", 4);
        fault("y01l0", 5);
        fault("y01l0 ", 5);
        fault("y01l0 0", 5);
        fault("y01l05", 5);
        fault("y01l0-", 5);
        fault("y01l000", 6);
        fault("y01l00 0", 7);
        fault("y01 l00 l00 l00 l00 l00 l00 l00 l00", NONE);
        fault("y01 l00 l00 l00 l00 l00 l00 l00 l00   ", NONE);
        fault("y01 l00 l00 l00 l00 l00 l00 l00 l00 l00", 36);
        fault("y01 l00 l00 l00 l00 l00 l00 l00 l00  x", 37);
        fault("y01l00l00l00l00l00l00l00l00s00", 27);
        fault("y01l00l00l00l00l00l00l00l05", 26);
        // bytes that are no letters, one of them NONE itself
        fault("y01" + (char) 247, 3);
        fault("y" + (char) 247 + "0", 1);
        fault("" + (char) 247, 0);
        fault("y01l" + (char) 247 + "0", 4);
        fault("y01" + (char) 236, 3);
        fault("y0" + (char) 176, 2);
        fault((char) 160 + "y01", 0);
        fault("y01" + (char) 0, 3);
    }

    private static void faultRefused() {
        SewnAhead x = new SewnAhead();
        due.finds("fault(0), missing", x, NOTHING, () -> x.fault(0));
        due.refuses("fault(-1)", x, BAD, () -> x.fault(-1));
        due.refuses("fault(4)", x, BAD, () -> x.fault(4));
        SewnAhead z = Due.cloth("y01 l01");
        Due.write(z, 1, "y-- b34 k00");
        long before = z.digest();
        due.is("fault(1)", z.fault(1), NONE);
        due.is("fault changes nothing", z.digest(), before);
    }

    private static void cloth() {
        SewnAhead x = new SewnAhead();
        due.finds("cloth(0), missing", x, NOTHING, () -> x.cloth(0));
        due.refuses("cloth(-1)", x, BAD, () -> x.cloth(-1));
        due.refuses("cloth(4)", x, BAD, () -> x.cloth(4));
        Due.write(x, 0, "y0-3");
        Due.write(x, 3, "y0-3-4 l01 e32");
        Due.write(x, 1, "y0");
        due.refuses("cloth(1), a FAULT", x, STATE, () -> x.cloth(1));
        due.is("cloth(0)", x.cloth(0), 3);
        due.is("count(0)", x.count(0), 3);
        due.is("count(1)", x.count(1), 0);
        due.happening("y0-3", x, "0-3");
        due.is("cloth(3)", x.cloth(3), 5);
        due.is("count(0)", x.count(0), 5);
        due.is("count(1)", x.count(1), 2);
        due.happening("y0-3-4 l01 e32", x, "013-4");
        due.refuses("cloth(1), a FAULT", x, STATE, () -> x.cloth(1));
        due.happening("cloth refused", x, "013-4");
        x.put(3, 1, '-');
        due.happening("a TEXT changed later", x, "013-4");
    }

    private static void clothAnew() {
        SewnAhead x = Due.cloth("y0-3 l01");
        x.sew(1, 2);
        x.keep(0);
        x.keep(2);
        Due.write(x, 1, "y0");
        due.refuses("cloth(1), a FAULT", x, STATE, () -> x.cloth(1));
        due.is("cloth refused, count(8)", x.count(8), 2);
        due.is("cloth refused, count(2)", x.count(2), 1);
        due.is("cloth(0) anew", x.cloth(0), 3);
        due.is("cloth(0) anew, count(2)", x.count(2), 0);
        due.is("cloth(0) anew, count(8)", x.count(8), 0);
        due.finds("on(0), gone", x, NOTHING, () -> x.on(0));
        due.happening("cloth(0) anew", x, "013");
        due.is("cloth(0) anew, undo(0)", x.undo(0), 0);
        due.is("cloth(0) anew, end(0, 4)", x.end(0, 4), 1);
        due.is("cloth(0) anew", x.cloth(0), 3);
        due.happening("cloth(0) anew", x, "013");
    }
}
