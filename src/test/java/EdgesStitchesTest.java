/** The edges that the document names in promises 16 to 20 and for STITCHES in its Terms, a sentence each. */
public final class EdgesStitchesTest {
    private static final Due due = new Due("EdgesStitchesTest");
    private static final int NONE = SewnAhead.NONE;
    private static final int MAX = Integer.MAX_VALUE, MIN = Integer.MIN_VALUE;
    private static final int NOTHING = 1;
    private static final int[] NO_YEARS = {-1, 3, 4, 5, NONE, MAX, MIN};
    private static final int[] NO_SCENES = {-1, 5, 6, NONE, MAX, MIN};

    public static void main(String[] args) {
        most();
        sew();
        sewRefused();
        unpick();
        unpickRefused();
        undo();
        undoRefused();
        keep();
        on();
        keepAndOnRefused();
        due.end();
    }

    /** YEAR 0 SEWN, 1 PLAIN, 2 a HOLE; one STITCH. */
    private static SewnAhead each() {
        SewnAhead x = Due.cloth("y0-2 l01 b01 g24");
        x.unpick(2);
        return x;
    }

    private static SewnAhead full() {
        return Due.full("y0-2 b01");
    }

    private static void most() {
        due.sentence("These are STITCHES (40 at most)");
        SewnAhead x = Due.cloth("y0-");
        for (int i = 0; i < 40; i++) {
            due.is("STITCH " + i, i % 2 == 0 ? x.sew(1, i % 5) : x.unpick(1), 0);
            due.is("count(2)", x.count(2), i + 1);
        }
        due.is("unpick(0), the 41st", x.unpick(0), SewnAhead.FULL);
        due.is("sew(1, 0), the 41st", x.sew(1, 0), SewnAhead.FULL);
        due.is("count(2)", x.count(2), 40);
        due.is("undo(39)", x.undo(39), 1);
        due.is("unpick(0), the 40th", x.unpick(0), 0);
        due.is("count(2)", x.count(2), 40);
        due.is("sew(0, 0), the 41st", x.sew(0, 0), SewnAhead.FULL);
        due.sentence("40 STITCHES can be kept, gone on from, undone");
        due.is("keep(0)", x.keep(0), 40);
        due.is("undo(0)", x.undo(0), 40);
        due.happening("undo(0)", x, "0-");
        due.is("on(0)", x.on(0), 40);
        due.is("count(2)", x.count(2), 40);
        due.happening("on(0)", x, "-3");
        due.is("sew(0, 0), gone on from", x.sew(0, 0), SewnAhead.FULL);
        due.is("undo(1)", x.undo(1), 39);
        due.happening("undo(1)", x, "00");
    }

    private static void sew() {
        due.sentence("16 sew: A SCENE is SEWN in a PLAIN YEAR, or a HOLE is DARNED with it");
        SewnAhead x = each();
        x.sew(1, 4);
        due.tells("year(1, 0), once PLAIN", x, 1, () -> x.year(1, 0));
        due.tells("year(1, 1), once PLAIN", x, 4, () -> x.year(1, 1));
        x.sew(2, 0);
        due.tells("year(2, 0), once a HOLE", x, 1, () -> x.year(2, 0));
        due.tells("year(2, 1), once a HOLE", x, 0, () -> x.year(2, 1));
        due.is("count(3)", x.count(3), 0);
        due.is("count(2)", x.count(2), 3);
        due.sentence("16 sew: how many LAWS are BROKEN then");
        due.is("sew(1, 0), none", Due.cloth("y0- b01 k12").sew(1, 0), 0);
        due.is("sew(1, 1), one", Due.cloth("y0- b01 k12").sew(1, 1), 1);
        due.is("sew(1, 1), all eight", Due.cloth("y0- b01 k01 b10 k10 b01 k01 b10 k10").sew(1, 1), 8);
        due.is("sew(0, 0), by what comes of it", Due.cloth("y-- l01 b01").sew(0, 0), 1);
        due.is("sew(1, 2), what it had broken", Due.cloth("y0-- l01 b01 k01").sew(1, 2), 0);
        due.is("sew(2, 2), BROKEN elsewhere", Due.cloth("y01- b01").sew(2, 2), 1);
    }

    private static void sewRefused() {
        due.sentence("16 sew: BAD");
        for (int y : NO_YEARS) {
            due.bad("sew(" + y + ", 0)", EdgesStitchesTest::each, x -> x.sew(y, 0));
            due.bad("sew(" + y + ", 0), FULL too", EdgesStitchesTest::full, x -> x.sew(y, 0));
        }
        for (int scene : NO_SCENES) {
            due.bad("sew(1, " + scene + ")", EdgesStitchesTest::each, x -> x.sew(1, scene));
            due.bad("sew(0, " + scene + "), SEWN too", EdgesStitchesTest::each, x -> x.sew(0, scene));
            due.bad("sew(1, " + scene + "), FULL too", EdgesStitchesTest::full, x -> x.sew(1, scene));
        }
        due.bad("sew(0, 0), no YEARS", SewnAhead::new, x -> x.sew(0, 0));
        due.sentence("16 sew: STATE: it is SEWN already");
        due.state("sew(0, 1), SEWN in the TEXT", EdgesStitchesTest::each, x -> x.sew(0, 1));
        due.state("sew(0, 0), with what is there", EdgesStitchesTest::each, x -> x.sew(0, 0));
        due.state("sew(0, 2), SEWN, DARNED", Due::rich, x -> x.sew(0, 2));
        due.state("sew(1, 2), SEWN in a PLAIN YEAR", Due::rich, x -> x.sew(1, 2));
        due.sentence("16 sew: FULL: 40 STITCHES. (FULL last.)");
        due.full("sew(1, 0), a HOLE", EdgesStitchesTest::full, x -> x.sew(1, 0));
        due.state("sew(0, 0), SEWN already and FULL", EdgesStitchesTest::full, x -> x.sew(0, 0));
        due.full("sew(1, 0), PLAIN", () -> {
            SewnAhead x = Due.cloth("y0-");
            for (int i = 0; i < 20; i++) {
                x.unpick(0);
                x.sew(0, 1);
            }
            return x;
        }, x -> x.sew(1, 0));
    }

    private static void unpick() {
        due.sentence("17 unpick: What is SEWN (DARNED) is UNPICKED");
        SewnAhead x = each();
        due.is("unpick(0)", x.unpick(0), 0);
        due.tells("year(0, 0)", x, 2, () -> x.year(0, 0));
        x.sew(2, 3);
        due.is("unpick(2), DARNED", x.unpick(2), 0);
        due.tells("year(2, 0)", x, 2, () -> x.year(2, 0));
        due.tells("year(2, 1)", x, 3, () -> x.year(2, 1));
        due.sentence("17 unpick: how many LAWS are BROKEN then");
        due.is("unpick(0), none any more", Due.cloth("y01 b01 k01").unpick(0), 0);
        due.is("unpick(0), some still", Due.cloth("y001 b01 k01").unpick(0), 2);
        due.is("unpick(1), by the HOLE", Due.cloth("y02 g21 b01").unpick(1), 1);
        due.is("unpick(0), all seven", Due.cloth("y21 g20 b01 k01 b10 k10 b01 k01 b10").unpick(0), 7);
    }

    private static void unpickRefused() {
        due.sentence("17 unpick: BAD");
        for (int y : NO_YEARS) {
            due.bad("unpick(" + y + ")", EdgesStitchesTest::each, x -> x.unpick(y));
            due.bad("unpick(" + y + "), FULL too", EdgesStitchesTest::full, x -> x.unpick(y));
        }
        due.bad("unpick(0), no YEARS", SewnAhead::new, x -> x.unpick(0));
        due.sentence("17 unpick: STATE: nothing is");
        due.state("unpick(1), PLAIN", EdgesStitchesTest::each, x -> x.unpick(1));
        due.state("unpick(2), a HOLE in which something HAPPENS", EdgesStitchesTest::each, x -> x.unpick(2));
        due.sentence("17 unpick: FULL. (FULL last.)");
        due.full("unpick(0)", EdgesStitchesTest::full, x -> x.unpick(0));
        due.full("unpick(2)", EdgesStitchesTest::full, x -> x.unpick(2));
        due.state("unpick(1), a HOLE and FULL", EdgesStitchesTest::full, x -> x.unpick(1));
        due.state("unpick(2), PLAIN and FULL", () -> Due.full("y0--"), x -> x.unpick(2));
    }

    private static void undo() {
        due.sentence("18 undo: STITCHES from number n on are undone: how many");
        SewnAhead x = Due.cloth("y0- g03 l01 l31");
        x.unpick(0);
        x.sew(1, 2);
        x.sew(0, 4);
        x.unpick(1);
        due.is("undo(4), none from there on", x.undo(4), 0);
        due.is("count(2)", x.count(2), 4);
        due.is("undo(3), the last", x.undo(3), 1);
        due.happening("undo(3)", x, "42");
        due.is("undo(1)", x.undo(1), 2);
        due.happening("undo(1)", x, "31");
        due.tells("year(0, 0), a HOLE again", x, 2, () -> x.year(0, 0));
        due.tells("year(0, 1), what was there", x, 0, () -> x.year(0, 1));
        due.tells("year(1, 0), PLAIN again", x, 0, () -> x.year(1, 0));
        due.tells("year(1, 1), PLAIN again", x, NONE, () -> x.year(1, 1));
        due.is("sew(1, 4), another one", x.sew(1, 4), 0);
        due.is("undo(0), all", x.undo(0), 2);
        due.happening("undo(0)", x, "01");
        due.is("undo(0), none", x.undo(0), 0);
        due.is("undo(0), no YEARS", new SewnAhead().undo(0), 0);
        SewnAhead full = full();
        due.is("undo(0), all 40", full.undo(0), 40);
        due.is("sew(1, 1)", full.sew(1, 1), 1);
    }

    private static void undoRefused() {
        due.sentence("18 undo: BAD");
        for (int n : new int[] {-1, 2, 3, 40, NONE, MAX, MIN}) {
            due.bad("undo(" + n + "), one STITCH", EdgesStitchesTest::each, x -> x.undo(n));
        }
        for (int n : new int[] {-1, 41, 42}) {
            due.bad("undo(" + n + "), 40 STITCHES", EdgesStitchesTest::full, x -> x.undo(n));
        }
        due.bad("undo(1), no STITCHES", () -> Due.cloth("y0-"), x -> x.undo(1));
        due.bad("undo(1), no YEARS", SewnAhead::new, x -> x.undo(1));
    }

    private static void keep() {
        due.sentence("19 keep: The CLOTH is kept in a place (0 .. 2): how many STITCHES");
        SewnAhead x = Due.cloth("y0- l01");
        for (int k = 0; k < 3; k++) {
            due.is("keep(" + k + ")", x.keep(k), k);
            due.is("count(8)", x.count(8), k + 1);
            due.is("STITCH " + k, k % 2 == 0 ? x.sew(1, 4) : x.unpick(1), 0);
        }
        due.is("keep(0), over another one", x.keep(0), 3);
        due.is("count(8)", x.count(8), 3);
        due.is("on(0)", x.on(0), 3);
        due.is("on(1)", x.on(1), 1);
        due.is("keep(1), what it is", x.keep(1), 1);
        due.is("on(1)", x.on(1), 1);
        due.sentence("19 keep: (YEARS, ENDS, STITCHES)");
        SewnAhead z = Due.cloth("y0- l01 l10");
        z.end(0, 2);
        z.end(1, 3);
        z.unpick(0);
        z.sew(0, 1);
        z.keep(2);
        z.undo(0);
        z.end(0, 4);
        z.end(1, 4);
        z.sew(1, 0);
        due.is("on(2)", z.on(2), 2);
        due.happening("on(2), YEARS and ENDS", z, "13");
        due.tells("law(0, 2)", z, 2, () -> z.law(0, 2));
        due.tells("law(1, 2)", z, 3, () -> z.law(1, 2));
        due.is("undo(1)", z.undo(1), 1);
        due.happening("undo(1), STITCHES", z, "--");
        due.is("undo(0)", z.undo(0), 1);
        due.happening("undo(0), STITCHES", z, "02");
    }

    private static void on() {
        due.sentence("20 on: The CLOTH is as it was kept: how many STITCHES");
        SewnAhead x = Due.cloth("y0- l01");
        x.keep(0);
        x.unpick(0);
        x.keep(1);
        x.sew(1, 3);
        due.is("on(1)", x.on(1), 1);
        due.happening("on(1)", x, "--");
        due.is("on(0)", x.on(0), 0);
        due.happening("on(0)", x, "01");
        due.is("sew(1, 4)", x.sew(1, 4), 0);
        due.is("on(0), again", x.on(0), 0);
        due.happening("on(0), what is kept is not sewn on", x, "01");
        due.is("on(1), again", x.on(1), 1);
        due.is("undo(0)", x.undo(0), 1);
        due.is("on(1), what is kept is not undone", x.on(1), 1);
        due.is("count(8)", x.count(8), 2);
        due.sentence("20 on: ROWS, TEXTS, what was told stay as they are");
        SewnAhead z = Due.rich();
        due.is("on(0)", z.on(0), 1);
        due.tells("at(0, 0)", z, 7, () -> z.at(0, 0));
        due.is("count(6)", z.count(6), 4);
        due.is("count(7)", z.count(7), 3);
        due.fraction("on(0)", z, 1, 6);
        due.is("finding()", z.finding(), 5);
    }

    private static void keepAndOnRefused() {
        due.sentence("19 keep, 20 on: BAD");
        for (int k : new int[] {-1, 3, 4, NONE, MAX, MIN}) {
            due.bad("keep(" + k + ")", Due::rich, x -> x.keep(k));
            due.bad("keep(" + k + "), no YEARS", SewnAhead::new, x -> x.keep(k));
            due.bad("on(" + k + ")", Due::rich, x -> x.on(k));
            due.bad("on(" + k + "), no YEARS", SewnAhead::new, x -> x.on(k));
        }
        due.sentence("19 keep: STATE: no YEARS");
        for (int k = 0; k < 3; k++) {
            int place = k;
            due.state("keep(" + k + ")", SewnAhead::new, x -> x.keep(place));
        }
        due.sentence("20 on: NOTHING");
        due.found("on(1)", NOTHING, Due::rich, x -> x.on(1));
        due.found("on(0), no YEARS", NOTHING, SewnAhead::new, x -> x.on(0));
        due.found("on(2), gone by a CLOTH anew", NOTHING, () -> {
            SewnAhead x = Due.rich();
            x.cloth(0);
            return x;
        }, x -> x.on(2));
    }
}
