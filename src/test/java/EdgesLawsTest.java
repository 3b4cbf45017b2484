/**
 * The edges that the document names in promises 12 to 15 and, in its Terms, for what HAPPENS and what is BROKEN, a
 * sentence each.
 */
public final class EdgesLawsTest {
    private static final Due due = new Due("EdgesLawsTest");
    private static final int NONE = SewnAhead.NONE;
    private static final int MAX = Integer.MAX_VALUE, MIN = Integer.MIN_VALUE;
    private static final int UNLIKE = 3;
    private static final int BAR = 1, GAP = 2, ECHO = 3, KNOT = 4, STORM = 5;

    public static void main(String[] args) {
        clothAtFirst();
        holes();
        firstYears();
        whichLaw();
        bars();
        knots();
        year();
        law();
        marks();
        markKnots();
        markRefused();
        end();
        endRefused();
        due.end();
    }

    private static void happens(String cloth, String want) {
        due.happening(cloth, Due.cloth(cloth), want);
    }

    private static void unpicked(String cloth, String want, int... years) {
        SewnAhead x = Due.cloth(cloth);
        for (int y : years) {
            x.unpick(y);
        }
        due.happening(cloth + ", UNPICKED", x, want);
    }

    private static void clothAtFirst() {
        due.sentence("A CLOTH (without YEARS, LAWS at first)");
        due.is("count(0)", new SewnAhead().count(0), 0);
        due.is("count(1)", new SewnAhead().count(1), 0);
        for (int i : new int[] {0, 1, 4, 7}) {
            due.bad("year(" + i + ", 0)", SewnAhead::new, x -> x.year(i, 0));
            due.bad("law(" + i + ", 0)", SewnAhead::new, x -> x.law(i, 0));
        }
    }

    private static void holes() {
        due.sentence("What is UNPICKED leaves a HOLE (its SCENE was there)");
        SewnAhead x = Due.cloth("y4-");
        x.unpick(0);
        due.tells("year(0, 0)", x, 2, () -> x.year(0, 0));
        due.tells("year(0, 1)", x, 4, () -> x.year(0, 1));
        x.sew(0, 0);
        x.unpick(0);
        due.tells("year(0, 1), DARNED and UNPICKED", x, 0, () -> x.year(0, 1));
        x.sew(1, 3);
        x.unpick(1);
        due.tells("year(1, 0), once PLAIN", x, 2, () -> x.year(1, 0));
        due.tells("year(1, 1), once PLAIN", x, 3, () -> x.year(1, 1));
        due.sentence("in a HOLE the END of the first GAP (by number) whose CAUSE was there");
        unpicked("y0- g01 g02", "1-", 0);
        unpicked("y0- g02 g01", "2-", 0);
        unpicked("y0- g12 g34 g03", "3-", 0);
        unpicked("y0- l01 b02 e03 k04 s01", "--", 0);
        unpicked("y0- l01 b02 e03 k04 s01 g14 g02", "2-", 0);
        unpicked("y01234 g00 g11 g22 g33 g44", "01234", 0, 1, 2, 3, 4);
        unpicked("y00 g00", "00", 0, 1);
        unpicked("y00 l01 s01 g12", "0-", 1);
        due.sentence("what comes in a HOLE makes others come, as what is SEWN does");
        unpicked("y0--- g01 l12 e13", "123-", 0);
        unpicked("y40-- g01 e12", "41-2", 1);
    }

    private static void firstYears() {
        due.sentence("one YEAR behind the other, from 0 on: none is ahead of YEAR 0");
        happens("y-0 l01", "-0");
        happens("y-0 s01", "-0");
        happens("y--0 e01", "--0");
        happens("y----- l00 e11 s22", "-----");
        due.sentence("a LAW, if its CAUSE HAPPENS in the YEAR ahead");
        happens("y0-- l01", "01-");
        happens("y-0- l01", "-01");
        happens("y---0- l01", "---01");
        happens("y0---- l01 l12 l23 l34", "01234");
        due.sentence("an ECHO, if it does two YEARS ahead");
        happens("y0- e01", "0-");
        happens("y0-- e01", "0-1");
        happens("y--0-- e01", "--0-1");
        happens("y0---- e00", "0-0-0");
        due.sentence("a STORM, if it does in either");
        happens("y0- s01", "01");
        happens("y0--- s01", "011-");
        happens("y00-- s01", "0011");
        happens("y---0- s01", "---01");
        happens("y-0--- s01", "-011-");
        due.sentence("the SCENE that is SEWN, whatever LAW HOLDS");
        happens("y02 l01", "02");
        happens("y0-2 s01 e01", "012");
    }

    private static void whichLaw() {
        due.sentence("in a PLAIN one the END of the first LAW (by number) that HOLDS");
        happens("y0- l01 l02", "01");
        happens("y0- l02 l01", "02");
        happens("y01- e02 l13", "012");
        happens("y01- l13 e02", "013");
        happens("y01- s13 e02", "013");
        happens("y0- b01 g02 k03 l04", "04");
        happens("y0- l11 l22 l33 l44 s11 s22 s33 l04", "04");
        due.is("by(1), the eighth", Due.cloth("y0- l11 l22 l33 l44 s11 s22 s33 l04").by(1), 7);
        due.sentence("Else nothing (NONE)");
        happens("y0- b01", "0-");
        happens("y0- g01", "0-");
        happens("y0- k01", "0-");
        happens("y0- l12", "0-");
        happens("y-----", "-----");
        SewnAhead x = Due.cloth("y0- b01 g02");
        due.tells("year(1, 2)", x, NONE, () -> x.year(1, 2));
    }

    private static void breaks(String cloth, int want) {
        due.is("broken() of " + cloth, Due.cloth(cloth).broken(), want);
    }

    private static void bars() {
        due.sentence("A BAR is BROKEN, if its CAUSE and its END HAPPEN in two YEARS side by side");
        breaks("y01 b01", 1);
        breaks("y0-1 b01", 0);
        breaks("y---01 b01", 1);
        breaks("y0---1 b01", 0);
        breaks("y1---0 b01", 0);
        breaks("y02 b01", 0);
        breaks("y01 l22 b34 l22 b34 l22 b34 l22 b01", 128);
        due.sentence("(whichever is ahead)");
        breaks("y10 b01", 1);
        breaks("y---10 b01", 1);
        due.sentence("a BAR whose CAUSE and END are alike");
        breaks("y00 b00", 1);
        breaks("y0- b00", 0);
        breaks("y0-0 b00", 0);
        breaks("y-0-0- b00", 0);
        due.sentence("what HAPPENS by a LAW breaks as what is SEWN does");
        breaks("y0- l01 b01", 2);
        breaks("y0- l01 b10", 2);
        due.sentence("nothing (NONE) is no SCENE");
        breaks("y-- b00 k11 b23 k44", 0);
    }

    private static void knots() {
        due.sentence("a KNOT, if both HAPPEN, in whichever YEARS");
        breaks("y01 k01", 1);
        breaks("y10 k01", 1);
        breaks("y0---1 k01", 1);
        breaks("y1---0 k01", 1);
        breaks("y0-2-3 k01", 0);
        breaks("y1-2-3 k01", 0);
        breaks("y00000 k01", 0);
        breaks("y0---- e01 k01", 2);
        due.sentence("(two unlike ones, if these are alike)");
        breaks("y0- k00", 0);
        breaks("y0---- k00", 0);
        breaks("y00 k00", 1);
        breaks("y0---0 k00", 1);
        breaks("y---00 k00", 1);
        breaks("y0---- e00 k00", 2);
    }

    private static void year() {
        due.sentence("12 year: BAD");
        for (int y : new int[] {-1, 5, 6, NONE, MAX, MIN}) {
            due.bad("year(" + y + ", 0)", Due::rich, x -> x.year(y, 0));
        }
        due.bad("year(2, 2), of two", () -> Due.cloth("y01"), x -> x.year(2, 2));
        for (int what : new int[] {-1, 3, NONE, MAX, MIN}) {
            due.bad("year(0, " + what + ")", Due::rich, x -> x.year(0, what));
        }
        due.sentence("12 year: 0 what it is (0 PLAIN, 1 SEWN or DARNED, 2 a HOLE)");
        SewnAhead x = Due.cloth("y0---4 g44");
        due.tells("year(1, 0), PLAIN", x, 0, () -> x.year(1, 0));
        due.tells("year(0, 0), SEWN in the TEXT", x, 1, () -> x.year(0, 0));
        x.sew(1, 2);
        due.tells("year(1, 0), SEWN", x, 1, () -> x.year(1, 0));
        x.unpick(4);
        due.tells("year(4, 0), a HOLE", x, 2, () -> x.year(4, 0));
        x.sew(4, 3);
        due.tells("year(4, 0), DARNED", x, 1, () -> x.year(4, 0));
        due.sentence("12 year: 1 the SCENE that is, or was there (NONE: PLAIN)");
        due.tells("year(4, 1), DARNED", x, 3, () -> x.year(4, 1));
        due.tells("year(2, 1), PLAIN", x, NONE, () -> x.year(2, 1));
        SewnAhead z = Due.cloth("y0- l01");
        due.tells("year(1, 1), PLAIN though something HAPPENS", z, NONE, () -> z.year(1, 1));
        due.sentence("12 year: 2 what HAPPENS (NONE)");
        due.tells("year(1, 2), by a LAW", z, 1, () -> z.year(1, 2));
        z.unpick(0);
        due.tells("year(0, 2), a HOLE without a GAP", z, NONE, () -> z.year(0, 2));
        due.tells("year(1, 2), nothing ahead", z, NONE, () -> z.year(1, 2));
    }

    private static void law() {
        due.sentence("13 law: BAD");
        for (int k : new int[] {-1, 7, 8, NONE, MAX, MIN}) {
            due.bad("law(" + k + ", 0)", Due::rich, x -> x.law(k, 0));
        }
        due.bad("law(8, 0), of eight", () -> Due.cloth("y01l00l00l00l00l00l00l00l00"), x -> x.law(8, 0));
        for (int what : new int[] {-1, 4, NONE, MAX, MIN}) {
            due.bad("law(0, " + what + ")", Due::rich, x -> x.law(0, what));
        }
        due.sentence("13 law: 3 whether it is BROKEN (a BAR, a KNOT: 1, 0; others 0)");
        SewnAhead x = Due.cloth("y01 l01 b01 g01 e01 k01 s01 b23 k23");
        int[] broken = {0, 1, 0, 0, 1, 0, 0, 0};
        for (int k = 0; k < 8; k++) {
            int law = k;
            due.tells("law(" + k + ", 3)", x, broken[k], () -> x.law(law, 3));
        }
    }

    private static void markIs(String cloth, int kind, int want, int... unpick) {
        SewnAhead x = Due.cloth(cloth);
        for (int y : unpick) {
            x.unpick(y);
        }
        long before = x.digest();
        due.is("mark(0, " + kind + ") of " + cloth, x.mark(0, kind), want);
        due.is("digest()", x.digest(), before);
        due.is("asked()", x.asked(), 0);
    }

    private static void marks() {
        due.sentence("14 mark: a BAR (KNOT, too) in how many YEARS its CAUSE or its END HAPPENS");
        markIs("y-- b01", BAR, 0);
        markIs("y01234 b01", BAR, 2);
        markIs("y01101 b01", BAR, 5);
        markIs("y0-0-0 b00", BAR, 3);
        markIs("y01101 k01", BAR, 5);
        markIs("y0-0-0 k00", BAR, 3);
        markIs("y0-3-- b01 l01", BAR, 2);
        due.sentence("14 mark: a GAP in how many HOLES its END HAPPENS");
        markIs("y00 g00", GAP, 0);
        markIs("y00 g01", GAP, 1, 0);
        markIs("y00000 g01", GAP, 5, 0, 1, 2, 3, 4);
        markIs("y10 g01", GAP, 1, 1);
        markIs("y02 g01 g21", GAP, 2, 0, 1);
        markIs("y2- g01 g21", GAP, 1, 0);
        markIs("y2- g01 l01", GAP, 0, 0);
        due.sentence("14 mark: an ECHO (STORM, too) in how many YEARS its CAUSE HAPPENS");
        markIs("y11 e01", ECHO, 0);
        markIs("y00000 e01", ECHO, 5);
        markIs("y0--0- s01", ECHO, 2);
        markIs("y0---- e00", ECHO, 3);
        markIs("y00 e01 g02", ECHO, 1, 1);
        due.sentence("14 mark: a STORM in how many PLAIN YEARS its END HAPPENS");
        markIs("y0---- s01", STORM, 2);
        markIs("y0---- s00", STORM, 4);
        markIs("y01111 s01", STORM, 0);
        markIs("y00- s01 g01", STORM, 1, 1);
        markIs("y2- s01 l21", STORM, 1);
    }

    private static void markKnots() {
        due.sentence("14 mark: a KNOT whether but one of its CAUSE, its END HAPPENS (1, 0)");
        markIs("y-- k01", KNOT, 0);
        markIs("y02 k01", KNOT, 1);
        markIs("y12 k01", KNOT, 1);
        markIs("y00000 k01", KNOT, 1);
        markIs("y0---1 k01", KNOT, 0);
        markIs("y34 k01", KNOT, 0);
        markIs("y02 k00", KNOT, 0);
        markIs("y00 k00", KNOT, 0);
    }

    private static void markRefused() {
        due.sentence("14 mark: BAD: also KIND 0");
        for (int kind : new int[] {0, -1, 6, 7, NONE, MAX, MIN}) {
            for (int k = 0; k < 6; k++) {
                int law = k;
                due.bad("mark(" + k + ", " + kind + ")", Due::rich, x -> x.mark(law, kind));
            }
        }
        for (int k : new int[] {-1, 7, 8, MAX, MIN}) {
            due.bad("mark(" + k + ", 1)", Due::rich, x -> x.mark(k, 1));
        }
        due.bad("mark(0, 1), no LAWS", () -> Due.cloth("y01"), x -> x.mark(0, 1));
        due.sentence("14 mark: UNLIKE");
        // what a LAW of each KIND is, beside a LAW: a KNOT is a BAR, a STORM an ECHO, and not the other way
        int[] are = {0, 1 << BAR, 1 << GAP, 1 << ECHO, 1 << KNOT | 1 << BAR, 1 << STORM | 1 << ECHO};
        for (int k = 0; k < 6; k++) {
            for (int kind = 1; kind < 6; kind++) {
                int law = k;
                int asked = kind;
                String call = "mark(" + k + ", " + kind + ")";
                if ((are[k] >> kind & 1) == 1) {
                    due.holds(call, Due.rich().mark(k, kind) >= 0);
                } else {
                    due.found(call, UNLIKE, Due::rich, x -> x.mark(law, asked));
                }
            }
        }
    }

    private static void end() {
        due.sentence("15 end: The END of a LAW is a SCENE: what it was");
        SewnAhead x = Due.cloth("y0- l01 l00 l00 l00 l00 l00 l00 b02");
        due.is("end(0, 4)", x.end(0, 4), 1);
        due.happening("end(0, 4)", x, "04");
        due.is("end(0, 0)", x.end(0, 0), 4);
        due.happening("end(0, 0)", x, "00");
        due.is("end(0, 0), as it is", x.end(0, 0), 0);
        due.is("broken()", x.broken(), 0);
        due.is("end(7, 0), the eighth", x.end(7, 0), 2);
        due.is("broken()", x.broken(), 128);
        due.tells("law(7, 1): the CAUSE stays", x, 0, () -> x.law(7, 1));
        due.tells("law(7, 2)", x, 0, () -> x.law(7, 2));
    }

    private static void endRefused() {
        due.sentence("15 end: BAD");
        for (int k : new int[] {-1, 7, 8, MAX, MIN}) {
            due.bad("end(" + k + ", 0), STITCHES too", Due::rich, x -> x.end(k, 0));
            due.bad("end(" + k + ", 0)", () -> Due.cloth("y01 l00 l00 l00 l00 l00 l00 l00"), x -> x.end(k, 0));
        }
        due.bad("end(0, 0), no LAWS", () -> Due.cloth("y01"), x -> x.end(0, 0));
        due.bad("end(0, 0), no YEARS", SewnAhead::new, x -> x.end(0, 0));
        for (int scene : new int[] {-1, 5, 6, NONE, MAX, MIN}) {
            due.bad("end(0, " + scene + "), STITCHES too", Due::rich, x -> x.end(0, scene));
            due.bad("end(0, " + scene + ")", () -> Due.cloth("y01 l01"), x -> x.end(0, scene));
        }
        due.sentence("15 end: STATE: there are STITCHES");
        due.state("end(0, 0)", Due::rich, x -> x.end(0, 0));
        due.state("end(0, 2), one STITCH", () -> {
            SewnAhead x = Due.cloth("y0- l01");
            x.sew(1, 1);
            return x;
        }, x -> x.end(0, 2));
        SewnAhead x = Due.cloth("y0- l01");
        x.sew(1, 1);
        x.undo(0);
        due.is("end(0, 2), undone", x.end(0, 2), 1);
        x.keep(0);
        due.is("end(0, 3), kept without STITCHES", x.end(0, 3), 2);
        x.unpick(0);
        x.on(0);
        due.is("end(0, 4), gone on from one without STITCHES", x.end(0, 4), 2);
    }
}
