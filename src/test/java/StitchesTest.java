/** Promises 16 to 20: sew, unpick, undo, keep, on. */
public final class StitchesTest {
    private static final Due due = new Due("StitchesTest");
    private static final int BAD = SewnAhead.BAD, FULL = SewnAhead.FULL, STATE = SewnAhead.STATE;
    private static final int MAX = Integer.MAX_VALUE, MIN = Integer.MIN_VALUE;
    private static final int NOTHING = 1;

    public static void main(String[] args) {
        sew();
        unpick();
        full();
        undo();
        keep();
        keptStitches();
        keptEnds();
        noYears();
        due.end();
    }

    private static void sew() {
        SewnAhead x = Due.cloth("y0-- b01 k01 l23");
        due.is("sew(2, 1)", x.sew(2, 1), 1);
        due.happening("sew(2, 1)", x, "0-1");
        due.is("sew(1, 1)", x.sew(1, 1), 2);
        due.happening("sew(1, 1)", x, "011");
        due.is("count(2)", x.count(2), 2);
        due.refuses("sew(0, 1), SEWN", x, STATE, () -> x.sew(0, 1));
        due.refuses("sew(1, 1), SEWN", x, STATE, () -> x.sew(1, 1));
        for (int y : new int[] {-1, 3, 5, MAX, MIN}) {
            due.refuses("sew(" + y + ", 1)", x, BAD, () -> x.sew(y, 1));
        }
        for (int s : new int[] {-1, 5, 6, -9, MAX, MIN}) {
            due.refuses("sew(0, " + s + ")", x, BAD, () -> x.sew(0, s));
        }
        x.unpick(0);
        due.is("sew(0, 2), DARNED", x.sew(0, 2), 0);
        due.happening("DARNED", x, "211");
        due.is("DARNED, count(3)", x.count(3), 0);
        SewnAhead z = Due.cloth("y--- l01 b12");
        due.is("sew(0, 0), what comes by it", z.sew(0, 0), 0);
        due.happening("sew(0, 0)", z, "01-");
        due.is("sew(2, 2), what breaks by it", z.sew(2, 2), 1);
    }

    private static void unpick() {
        SewnAhead x = Due.cloth("y02- g21 b01 k12 b14");
        due.is("unpick(1)", x.unpick(1), 1);
        due.happening("unpick(1)", x, "01-");
        due.is("count(2)", x.count(2), 1);
        due.is("count(3)", x.count(3), 1);
        due.refuses("unpick(1), a HOLE", x, STATE, () -> x.unpick(1));
        due.refuses("unpick(2), PLAIN", x, STATE, () -> x.unpick(2));
        for (int y : new int[] {-1, 3, 5, MAX, MIN}) {
            due.refuses("unpick(" + y + ")", x, BAD, () -> x.unpick(y));
        }
        due.is("unpick(0)", x.unpick(0), 0);
        due.happening("unpick(0)", x, "-1-");
        x.sew(2, 4);
        due.is("unpick(2), what was SEWN", x.unpick(2), 0);
        x.sew(2, 2);
        due.is("unpick(2), what was DARNED", x.unpick(2), 0);
        due.happening("unpick(2)", x, "-11");
        due.is("count(3)", x.count(3), 3);
    }

    private static void full() {
        SewnAhead x = Due.cloth("y0-");
        for (int i = 0; i < 20; i++) {
            due.is("sew(1, 3)", x.sew(1, 3), 0);
            due.is("unpick(1)", x.unpick(1), 0);
        }
        due.is("count(2)", x.count(2), 40);
        due.refuses("sew(1, 3), FULL", x, FULL, () -> x.sew(1, 3));
        due.refuses("unpick(0), FULL", x, FULL, () -> x.unpick(0));
        due.refuses("sew(0, 3), SEWN and FULL", x, STATE, () -> x.sew(0, 3));
        due.refuses("unpick(1), a HOLE and FULL", x, STATE, () -> x.unpick(1));
        due.refuses("sew(2, 3), FULL", x, BAD, () -> x.sew(2, 3));
        due.refuses("unpick(2), FULL", x, BAD, () -> x.unpick(2));
        due.is("undo(39)", x.undo(39), 1);
        due.is("unpick(0), the last", x.unpick(0), 0);
        due.refuses("sew(0, 3), FULL again", x, FULL, () -> x.sew(0, 3));
    }

    private static void undo() {
        SewnAhead x = Due.cloth("y0-2 g03 l31");
        x.unpick(0);
        x.sew(0, 4);
        x.unpick(0);
        x.sew(1, 2);
        x.unpick(2);
        due.happening("five STITCHES", x, "-2-");
        due.refuses("undo(6)", x, BAD, () -> x.undo(6));
        due.refuses("undo(-1)", x, BAD, () -> x.undo(-1));
        due.refuses("undo(MAX)", x, BAD, () -> x.undo(MAX));
        due.refuses("undo(MIN)", x, BAD, () -> x.undo(MIN));
        due.is("undo(5)", x.undo(5), 0);
        due.is("undo(4)", x.undo(4), 1);
        due.happening("undo(4)", x, "-22");
        due.is("undo(2)", x.undo(2), 2);
        due.happening("undo(2)", x, "4-2");
        due.is("count(2)", x.count(2), 2);
        due.is("undo(1)", x.undo(1), 1);
        due.happening("undo(1): the HOLE of what was there first", x, "312");
        due.is("sew(1, 0)", x.sew(1, 0), 0);
        due.is("undo(0)", x.undo(0), 2);
        due.happening("undo(0)", x, "0-2");
        due.tells("year(1, 0), PLAIN again", x, 0, () -> x.year(1, 0));
        due.tells("year(1, 1), PLAIN again", x, -9, () -> x.year(1, 1));
        due.is("undo(0), none", x.undo(0), 0);
        due.refuses("undo(1), none", x, BAD, () -> x.undo(1));
    }

    private static void keep() {
        SewnAhead x = Due.cloth("y0-2 l01");
        due.finds("on(0), missing", x, NOTHING, () -> x.on(0));
        due.is("keep(0)", x.keep(0), 0);
        x.sew(1, 4);
        x.unpick(0);
        due.is("keep(2)", x.keep(2), 2);
        due.is("count(8)", x.count(8), 2);
        x.sew(0, 3);
        due.is("on(0)", x.on(0), 0);
        due.happening("on(0)", x, "012");
        due.is("on(0), count(2)", x.count(2), 0);
        due.is("on(2)", x.on(2), 2);
        due.happening("on(2)", x, "-42");
        due.is("on(2), undo(1)", x.undo(1), 1);
        due.happening("on(2), undo(1)", x, "042");
        due.is("on(2) again", x.on(2), 2);
        due.happening("on(2) again", x, "-42");
        x.undo(0);
        due.is("keep(2) over it", x.keep(2), 0);
        due.is("on(2)", x.on(2), 0);
        due.happening("on(2)", x, "012");
        due.is("keep(2) over it, count(8)", x.count(8), 2);
        due.finds("on(1), missing", x, NOTHING, () -> x.on(1));
        for (int k : new int[] {-1, 3, MAX, MIN}) {
            due.refuses("keep(" + k + ")", x, BAD, () -> x.keep(k));
            due.refuses("on(" + k + ")", x, BAD, () -> x.on(k));
        }
    }

    /** What is kept is the STITCHES themselves: others made in between do not come into them. */
    private static void keptStitches() {
        SewnAhead x = Due.cloth("y0-2-");
        x.sew(1, 3);
        x.unpick(0);
        x.keep(0);
        x.undo(0);
        x.unpick(2);
        x.sew(2, 4);
        x.sew(3, 1);
        x.keep(1);
        due.is("on(0)", x.on(0), 2);
        due.happening("on(0)", x, "-32-");
        due.is("on(0), undo(1)", x.undo(1), 1);
        due.happening("on(0), undo(1)", x, "032-");
        due.is("on(0), undo(0)", x.undo(0), 1);
        due.happening("on(0), undo(0)", x, "0-2-");
        due.is("on(1)", x.on(1), 3);
        due.happening("on(1)", x, "0-41");
        due.is("on(1), undo(1)", x.undo(1), 2);
        due.happening("on(1), undo(1)", x, "0---");
        due.is("on(1), undo(0)", x.undo(0), 1);
        due.happening("on(1), undo(0)", x, "0-2-");
    }

    private static void keptEnds() {
        SewnAhead x = Due.cloth("y0- l01 b02");
        x.keep(1);
        x.end(0, 2);
        due.happening("end(0, 2)", x, "02");
        due.is("end(0, 2), broken()", x.broken(), 2);
        x.keep(0);
        due.is("on(1)", x.on(1), 0);
        due.happening("on(1)", x, "01");
        due.is("on(1), broken()", x.broken(), 0);
        due.is("on(0)", x.on(0), 0);
        due.happening("on(0)", x, "02");
        x.sew(1, 3);
        due.is("on(1), behind STITCHES", x.on(1), 0);
        due.is("on(1), end(0, 4)", x.end(0, 4), 1);
    }

    private static void noYears() {
        SewnAhead x = new SewnAhead();
        due.refuses("sew(0, 0), no YEARS", x, BAD, () -> x.sew(0, 0));
        due.refuses("unpick(0), no YEARS", x, BAD, () -> x.unpick(0));
        due.refuses("undo(1), no YEARS", x, BAD, () -> x.undo(1));
        due.is("undo(0), no YEARS", x.undo(0), 0);
        due.refuses("keep(0), no YEARS", x, STATE, () -> x.keep(0));
        due.refuses("keep(3), no YEARS", x, BAD, () -> x.keep(3));
        due.finds("on(0), no YEARS", x, NOTHING, () -> x.on(0));
    }
}
