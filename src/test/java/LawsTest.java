/** Promises 12 to 15: year, law, mark, end; and what HAPPENS and what is BROKEN by the LAWS. */
public final class LawsTest {
    private static final Due due = new Due("LawsTest");
    private static final int BAD = SewnAhead.BAD, STATE = SewnAhead.STATE, NONE = SewnAhead.NONE;
    private static final int MAX = Integer.MAX_VALUE, MIN = Integer.MIN_VALUE;
    private static final int UNLIKE = 3;

    public static void main(String[] args) {
        happenings();
        holes();
        year();
        law();
        broken();
        mark();
        markKnots();
        markRefused();
        end();
        due.end();
    }

    private static void happens(String cloth, String want) {
        due.happening(cloth, Due.cloth(cloth), want);
    }

    private static void happenings() {
        happens("y01234", "01234");
        happens("y-----", "-----");
        happens("y0---- l01 l12", "012--");
        happens("y0---- l00", "00000");
        happens("y0---- e01", "0-1--");
        happens("y0---- e00", "0-0-0");
        happens("y0---- s01", "011--");
        happens("y0---- s00", "00000");
        happens("y-0--- s01", "-011-");
        happens("y-0--- e01", "-0-1-");
        happens("y0- b01", "0-");
        happens("y0- g01", "0-");
        happens("y0- k01", "0-");
        happens("y0-- b01 g02 k03 e04", "0-4");
        happens("y0- l01 l02", "01");
        happens("y0- l02 l01", "02");
        happens("y01- e02 l13", "012");
        happens("y01- l13 e02", "013");
        happens("y01- s02 l13", "012");
        happens("y10- s02 l03", "102");
        happens("y0-3-- l01 e13 l34", "01334");
        happens("y-0 l01", "-0");
        happens("y1---- s10 e02 l23 s34", "10022");
    }

    private static void holes() {
        SewnAhead x = Due.cloth("y0- g02 g01 l23");
        x.unpick(0);
        due.happening("the first GAP", x, "23");
        SewnAhead z = Due.cloth("y00 l01 s02");
        z.unpick(1);
        due.happening("no LAW but a GAP in a HOLE", z, "0-");
        SewnAhead w = Due.cloth("y0-- g12 g03 e34");
        w.unpick(0);
        due.happening("a GAP of what was there", w, "3-4");
        w.sew(0, 1);
        due.happening("DARNED", w, "1--");
        w.unpick(0);
        due.happening("UNPICKED anew", w, "2--");
        w.sew(0, 4);
        w.unpick(0);
        due.happening("no GAP for it", w, "---");
    }

    private static void year() {
        SewnAhead x = Due.cloth("y0-2 l01 g23");
        yearIs(x, 0, 1, 0, 0);
        yearIs(x, 1, 0, NONE, 1);
        yearIs(x, 2, 1, 2, 2);
        x.unpick(2);
        yearIs(x, 2, 2, 2, 3);
        x.sew(2, 4);
        yearIs(x, 2, 1, 4, 4);
        x.unpick(2);
        yearIs(x, 2, 2, 4, NONE);
        x.sew(1, 3);
        yearIs(x, 1, 1, 3, 3);
        for (int y : new int[] {-1, 3, 4, 5, MAX, MIN}) {
            due.refuses("year(" + y + ", 0)", x, BAD, () -> x.year(y, 0));
        }
        for (int what : new int[] {-1, 3, MAX, MIN}) {
            due.refuses("year(0, " + what + ")", x, BAD, () -> x.year(0, what));
        }
        SewnAhead none = new SewnAhead();
        due.refuses("year(0, 0), no YEARS", none, BAD, () -> none.year(0, 0));
    }

    private static void yearIs(SewnAhead x, int y, int... want) {
        for (int i = 0; i < want.length; i++) {
            int what = i;
            due.tells("year(" + y + ", " + what + ")", x, want[what], () -> x.year(y, what));
        }
    }

    private static void lawIs(SewnAhead x, int k, int... want) {
        for (int i = 0; i < want.length; i++) {
            int what = i;
            due.tells("law(" + k + ", " + what + ")", x, want[what], () -> x.law(k, what));
        }
    }

    private static void law() {
        SewnAhead x = Due.cloth("y01 l23 b01 g01 e01 k10 s01 b23 k44");
        lawIs(x, 0, 0, 2, 3, 0);
        lawIs(x, 1, 1, 0, 1, 1);
        lawIs(x, 2, 2, 0, 1, 0);
        lawIs(x, 3, 3, 0, 1, 0);
        lawIs(x, 4, 4, 1, 0, 1);
        lawIs(x, 5, 5, 0, 1, 0);
        lawIs(x, 6, 1, 2, 3, 0);
        lawIs(x, 7, 4, 4, 4, 0);
        SewnAhead z = Due.cloth("y01 l23");
        for (int k : new int[] {-1, 1, 8, MAX, MIN}) {
            due.refuses("law(" + k + ", 0)", z, BAD, () -> z.law(k, 0));
        }
        for (int what : new int[] {-1, 4, MAX, MIN}) {
            due.refuses("law(0, " + what + ")", z, BAD, () -> z.law(0, what));
        }
    }

    private static void breaks(String cloth, int want) {
        due.is("broken() of " + cloth, Due.cloth(cloth).broken(), want);
    }

    private static void broken() {
        breaks("y01 b01", 1);
        breaks("y10 b01", 1);
        breaks("y0-1 b01", 0);
        breaks("y0-1 k01", 1);
        breaks("y1-0 k01", 1);
        breaks("y01 k01", 1);
        breaks("y0---1 k10", 1);
        breaks("y00 b00", 1);
        breaks("y0-0 b00", 0);
        breaks("y0- b00", 0);
        breaks("y0-0 k00", 1);
        breaks("y0- k00", 0);
        breaks("y0-2 k01", 0);
        breaks("y2-1 k01", 0);
        breaks("y00 k01", 0);
        breaks("y01 l01 g01 e01 s01", 0);
        breaks("y0- l01 b01", 2);
        breaks("y--- b01 k23", 0);
        breaks("y34012 b01 b12 b02 k30 k34 b04 k11 b40", 1 + 2 + 8 + 16 + 32 + 128);
    }

    private static void mark() {
        SewnAhead x = Due.cloth("y01-0- b01 k02 g03 e14 s01");
        due.happening("mark", x, "01104");
        due.is("mark(0, 1)", x.mark(0, 1), 4);
        due.is("mark(1, 1)", x.mark(1, 1), 2);
        due.is("mark(1, 4)", x.mark(1, 4), 1);
        due.is("mark(2, 2)", x.mark(2, 2), 0);
        due.is("mark(3, 3)", x.mark(3, 3), 2);
        due.is("mark(4, 3)", x.mark(4, 3), 2);
        due.is("mark(4, 5)", x.mark(4, 5), 1);
        x.unpick(0);
        due.happening("mark, a HOLE", x, "31-01");
        due.is("mark(0, 1), a HOLE", x.mark(0, 1), 3);
        due.is("mark(2, 2), a HOLE", x.mark(2, 2), 1);
        due.is("mark(3, 3), a HOLE", x.mark(3, 3), 2);
        due.is("mark(4, 5), a HOLE", x.mark(4, 5), 1);
        x.sew(2, 3);
        due.happening("mark, SEWN", x, "31301");
        due.is("mark(2, 2), SEWN beside", x.mark(2, 2), 1);
        SewnAhead z = Due.cloth("y0404 g01 g41 g21");
        z.unpick(0);
        z.unpick(1);
        due.is("mark(0, 2), by whichever GAP", z.mark(0, 2), 2);
        due.is("mark(2, 2), by whichever GAP", z.mark(2, 2), 2);
    }

    private static void markKnots() {
        due.is("both", Due.cloth("y01 k01").mark(0, 4), 0);
        due.is("neither", Due.cloth("y34 k01").mark(0, 4), 0);
        due.is("the CAUSE", Due.cloth("y04 k01").mark(0, 4), 1);
        due.is("the END", Due.cloth("y14 k01").mark(0, 4), 1);
        due.is("alike", Due.cloth("y04 k00").mark(0, 4), 0);
        due.is("alike, none", Due.cloth("y14 k00").mark(0, 4), 0);
        due.is("a KNOT as a BAR", Due.cloth("y0410 k01").mark(0, 1), 3);
    }

    private static void markRefused() {
        int[][] are = {{}, {1}, {2}, {3}, {1, 4}, {3, 5}};
        for (int k = 0; k < 6; k++) {
            for (int kind = 1; kind <= 5; kind++) {
                SewnAhead x = Due.cloth("y01 l01 b01 g01 e01 k01 s01");
                int law = k;
                int asked = kind;
                boolean is = java.util.Arrays.stream(are[k]).anyMatch(a -> a == asked);
                if (is) {
                    due.is("mark(" + k + ", " + kind + ") is told", x.mark(k, kind) >= 0 ? 1 : 0, 1);
                } else {
                    due.finds("mark(" + k + ", " + kind + ")", x, UNLIKE, () -> x.mark(law, asked));
                }
            }
        }
        SewnAhead x = Due.cloth("y01 l01 b01");
        for (int k : new int[] {-1, 2, 8, MAX, MIN}) {
            due.refuses("mark(" + k + ", 1)", x, BAD, () -> x.mark(k, 1));
        }
        for (int kind : new int[] {-1, 0, 6, MAX, MIN}) {
            due.refuses("mark(1, " + kind + ")", x, BAD, () -> x.mark(1, kind));
        }
    }

    private static void end() {
        SewnAhead x = Due.cloth("y0-- l01 e02");
        due.happening("end", x, "012");
        due.is("end(0, 3)", x.end(0, 3), 1);
        due.is("end(0, 3) again", x.end(0, 3), 3);
        due.is("end(1, 0)", x.end(1, 0), 2);
        due.happening("end", x, "030");
        due.tells("law(0, 2)", x, 3, () -> x.law(0, 2));
        due.refuses("end(2, 0)", x, BAD, () -> x.end(2, 0));
        due.refuses("end(-1, 0)", x, BAD, () -> x.end(-1, 0));
        due.refuses("end(0, 5)", x, BAD, () -> x.end(0, 5));
        due.refuses("end(0, -1)", x, BAD, () -> x.end(0, -1));
        x.sew(1, 4);
        due.refuses("end(0, 1), STITCHES", x, STATE, () -> x.end(0, 1));
        due.refuses("end(2, 1), STITCHES", x, BAD, () -> x.end(2, 1));
        x.undo(0);
        due.is("end(0, 1), undone", x.end(0, 1), 3);
        due.happening("end, undone", x, "010");
        SewnAhead z = Due.cloth("y01 b02");
        due.is("end(0, 1)", z.end(0, 1), 2);
        due.is("end, broken()", z.broken(), 1);
    }
}
