/** The edges that the document names in promises 21 to 25, a sentence each. */
public final class EdgesHappeningsTest {
    private static final Due due = new Due("EdgesHappeningsTest");
    private static final int NONE = SewnAhead.NONE;
    private static final int MAX = Integer.MAX_VALUE, MIN = Integer.MIN_VALUE;
    private static final int[] NO_YEARS = {-1, 5, 6, NONE, MAX, MIN};

    public static void main(String[] args) {
        happens();
        by();
        broken();
        can();
        canRefused();
        safe();
        safeRefused();
        due.end();
    }

    private static void happensIn(SewnAhead x, int scene, int years, int bits) {
        due.is("happens(" + scene + ")", x.happens(scene), years);
        due.is("happens(" + scene + "), then asked()", x.asked(), bits);
    }

    private static void happens() {
        due.sentence("21 happens: In how many YEARS a SCENE HAPPENS; which (bits) by asked()");
        happensIn(Due.cloth("y00000"), 0, 5, 31);
        happensIn(Due.cloth("y00000"), 4, 0, 0);
        happensIn(Due.cloth("y4-3-4"), 4, 2, 17);
        happensIn(Due.cloth("y----4"), 4, 1, 16);
        happensIn(Due.cloth("y4----"), 4, 1, 1);
        happensIn(Due.cloth("y-----"), 0, 0, 0);
        happensIn(Due.cloth("y0-- l01 e01"), 1, 2, 6);
        SewnAhead hole = Due.cloth("y0- g03");
        hole.unpick(0);
        happensIn(hole, 0, 0, 0);
        happensIn(hole, 3, 1, 1);
        happensIn(new SewnAhead(), 0, 0, 0);
        SewnAhead before = Due.cloth("y01");
        before.happens(1);
        happensIn(before, 3, 0, 0);
        due.sentence("21 happens: BAD");
        for (int scene : new int[] {-1, 5, 6, NONE, MAX, MIN}) {
            due.bad("happens(" + scene + ")", Due::rich, x -> x.happens(scene));
            due.bad("happens(" + scene + "), no YEARS", SewnAhead::new, x -> x.happens(scene));
        }
    }

    private static void by() {
        due.sentence("22 by: The LAW by which something HAPPENS in a YEAR");
        SewnAhead x = Due.cloth("y0-4-- l01 l02 l02 l02 l02 l02 g43 l43");
        due.is("by(1), the first", x.by(1), 0);
        due.is("by(3), the eighth", x.by(3), 7);
        x.unpick(2);
        due.is("by(2), a GAP", x.by(2), 6);
        due.sentence("22 by: NONE: it is SEWN, or nothing does");
        due.is("by(0), SEWN", x.by(0), NONE);
        due.is("by(4), nothing", x.by(4), NONE);
        due.is("by(1), SEWN with what a LAW makes come", Due.cloth("y01 l01").by(1), NONE);
        x.unpick(0);
        due.is("by(0), a HOLE in which nothing does", x.by(0), NONE);
        due.is("by(1), nothing any more", x.by(1), NONE);
        x.sew(2, 3);
        due.is("by(2), DARNED", x.by(2), NONE);
        due.sentence("22 by: BAD");
        for (int y : NO_YEARS) {
            due.bad("by(" + y + ")", Due::rich, z -> z.by(y));
        }
        due.bad("by(2), of two", () -> Due.cloth("y01"), z -> z.by(2));
        due.bad("by(0), no YEARS", SewnAhead::new, z -> z.by(0));
    }

    private static void brokenIs(String cloth, int laws, int year) {
        SewnAhead x = Due.cloth(cloth);
        due.is("broken() of " + cloth, x.broken(), laws);
        due.is("broken() of " + cloth + ", then asked()", x.asked(), year);
    }

    private static void broken() {
        due.sentence("23 broken: LAWS (bits) that are BROKEN");
        brokenIs("y01 b01", 1, 0);
        brokenIs("y01 b01 k01 b10 k10 b01 k01 b10 k10", 255, 0);
        brokenIs("y01 l01 g01 e01 s01 b02 b12 b00 k01", 128, 0);
        due.sentence("23 broken: the first YEAR in which the CAUSE or the END of one of these HAPPENS");
        brokenIs("y---01 b01", 1, 3);
        brokenIs("y-3-01 b01 b03", 1, 3);
        brokenIs("y1-301 b01", 1, 0);
        brokenIs("y-0-01 b01", 1, 1);
        brokenIs("y-2-21 k12", 1, 1);
        brokenIs("y-1201 b34 b01 k12", 6, 1);
        brokenIs("y01-23 b01 b23", 3, 0);
        brokenIs("y01-23 b23 b01", 3, 0);
        due.sentence("23 broken: (NONE: none is BROKEN)");
        brokenIs("y01 b02 k34", 0, NONE);
        brokenIs("y01", 0, NONE);
        brokenIs("y01 l01", 0, NONE);
        SewnAhead none = new SewnAhead();
        due.is("broken(), no YEARS", none.broken(), 0);
        due.is("broken(), no YEARS, then asked()", none.asked(), NONE);
    }

    private static void can() {
        due.sentence("24 can: SCENES (bits) that, SEWN in a PLAIN YEAR or DARNED in a HOLE, leave nothing BROKEN");
        due.is("all", Due.cloth("y0-").can(1), 31);
        due.is("none, BROKEN elsewhere", Due.cloth("y01- b01").can(2), 0);
        due.is("none, one BAR each", Due.cloth("y0- b00 b01 b02 b03 b04").can(1), 0);
        due.is("the last alone", Due.cloth("y0- b00 b01 b02 b03").can(1), 16);
        due.is("the first alone", Due.cloth("y4- k41 k42 k43 k44").can(1), 1);
        due.is("YEAR 0", Due.cloth("y-0 b00").can(0), 30);
        due.is("YEAR 4", Due.cloth("y---1- b14").can(4), 15);
        due.is("what comes of it", Due.cloth("y-- l01 b01").can(0), 30);
        due.is("what does not come any more", Due.cloth("y0-- l01 b01").can(1), 28);
        SewnAhead hole = Due.cloth("y01 g00 b00");
        hole.unpick(1);
        due.is("a HOLE", hole.can(1), 30);
        due.is("with 40 STITCHES", Due.full("y0- b01").can(1), 29);
        due.sentence("24 can: of the CLOTH as it is sewn now");
        SewnAhead sewn = Due.cloth("y--- b01");
        sewn.sew(0, 0);
        due.is("beside what was SEWN", sewn.can(1), 29);
        Due.write(sewn, 1, "y44444 b44");
        sewn.fault(1);
        due.is("behind a TEXT that was looked at", sewn.can(1), 29);
        sewn.undo(0);
        due.is("behind what was undone", sewn.can(1), 31);
        SewnAhead rich = Due.rich();
        long before = rich.digest();
        due.is("can(3)", rich.can(3), 0);
        due.is("digest()", rich.digest(), before);
        due.is("asked()", rich.asked(), 9);
        due.is("count(2)", rich.count(2), 4);
    }

    private static void canRefused() {
        due.sentence("24 can: BAD");
        for (int y : NO_YEARS) {
            due.bad("can(" + y + ")", Due::rich, x -> x.can(y));
        }
        due.bad("can(2), of two", () -> Due.cloth("y--"), x -> x.can(2));
        due.bad("can(0), no YEARS", SewnAhead::new, x -> x.can(0));
        due.sentence("24 can: STATE: it is SEWN");
        due.state("can(4), in the TEXT", Due::rich, x -> x.can(4));
        due.state("can(1), once PLAIN", Due::rich, x -> x.can(1));
        due.state("can(0), DARNED", Due::rich, x -> x.can(0));
    }

    private static void safe() {
        due.sentence("25 safe: SCENES that could be SEWN so that nothing is BROKEN, whatever SCENE is SEWN behind");
        due.is("all", Due.cloth("y--").safe(0), 31);
        due.is("none", Due.cloth("y-- b00 b12 b34").safe(0), 0);
        due.is("a BAR with the first SCENE", Due.cloth("y-- b04").safe(0), 14);
        due.is("a BAR with the last SCENE", Due.cloth("y-- b44").safe(0), 15);
        due.is("the last but one YEAR", Due.cloth("y----- b12").safe(3), 25);
        due.is("beside what is ahead", Due.cloth("y1-- b12").safe(1), 25);
        due.is("beside what is ahead, as it is", Due.cloth("y1-- b12 b13 b14 b10").safe(1), 0);
        due.sentence("25 safe: (whatever is there now)");
        for (String cloth : new String[] {"y-- b12", "y1- b12", "y-2 b12", "y12 b12", "y33 b12"}) {
            due.is(cloth, Due.cloth(cloth).safe(0), 25);
        }
        SewnAhead holes = Due.cloth("y12 b12 g11 g22");
        holes.unpick(0);
        holes.unpick(1);
        due.is("HOLES", holes.safe(0), 25);
        due.is("with 40 STITCHES", Due.full("y0- b01").safe(0), 28);
        due.sentence("25 safe: (all others as they are)");
        due.is("BROKEN elsewhere", Due.cloth("y--12 b12").safe(0), 0);
        due.is("beside what is two behind", Due.cloth("y--1 b12").safe(0), 0);
        due.is("PLAIN ones, in which something comes", Due.cloth("y--- l12 b12").safe(0), 0);
        due.is("PLAIN ones, by the YEAR itself", Due.cloth("y--- e12 k12").safe(0), 25);
        SewnAhead sewn = Due.cloth("y---- b12");
        sewn.sew(3, 1);
        due.is("beside what was SEWN", sewn.safe(1), 0);
        sewn.undo(0);
        due.is("behind what was undone", sewn.safe(1), 25);
        Due.write(sewn, 1, "y44444 b44");
        sewn.fault(1);
        due.is("behind a TEXT that was looked at", sewn.safe(1), 25);
        SewnAhead x = Due.cloth("y0--1 b01");
        long before = x.digest();
        due.is("what is not side by side", x.safe(0), 28);
        due.is("digest()", x.digest(), before);
        due.is("asked()", x.asked(), 0);
        due.is("count(2)", x.count(2), 0);
    }

    private static void safeRefused() {
        due.sentence("25 safe: BAD: also the last YEAR");
        for (int y : new int[] {-1, 4, 5, NONE, MAX, MIN}) {
            due.bad("safe(" + y + ")", Due::rich, x -> x.safe(y));
        }
        due.is("safe(3), the last but one", Due.cloth("y-----").safe(3), 31);
        due.bad("safe(1), of two", () -> Due.cloth("y--"), x -> x.safe(1));
        due.bad("safe(0), no YEARS", SewnAhead::new, x -> x.safe(0));
        due.bad("safe(-1), no YEARS", SewnAhead::new, x -> x.safe(-1));
    }
}
