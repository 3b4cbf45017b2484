/** Promises 21 to 25: happens, by, broken, can, safe. */
public final class HappeningsTest {
    private static final Due due = new Due("HappeningsTest");
    private static final int BAD = SewnAhead.BAD, STATE = SewnAhead.STATE, NONE = SewnAhead.NONE;
    private static final int MAX = Integer.MAX_VALUE, MIN = Integer.MIN_VALUE;

    public static void main(String[] args) {
        happens();
        by();
        broken();
        can();
        safe();
        noYears();
        due.end();
    }

    private static void happensIn(SewnAhead x, int scene, int years, int bits) {
        due.is("happens(" + scene + ")", x.happens(scene), years);
        due.is("happens(" + scene + "), then asked()", x.asked(), bits);
    }

    private static void happens() {
        SewnAhead x = Due.cloth("y0---- l00");
        happensIn(x, 0, 5, 31);
        happensIn(x, 1, 0, 0);
        SewnAhead z = Due.cloth("y4-2-4 l41 e43");
        due.happening("happens", z, "412-4");
        happensIn(z, 4, 2, 17);
        happensIn(z, 1, 1, 2);
        happensIn(z, 2, 1, 4);
        happensIn(z, 3, 0, 0);
        happensIn(z, 0, 0, 0);
        for (int s : new int[] {-1, 5, -9, MAX, MIN}) {
            due.refuses("happens(" + s + ")", z, BAD, () -> z.happens(s));
        }
    }

    private static void by() {
        SewnAhead x = Due.cloth("y0---- b01 l01 l02 s04 g03");
        due.happening("by", x, "014--");
        due.is("by(0), SEWN", x.by(0), NONE);
        due.is("by(1), the first that HOLDS", x.by(1), 1);
        due.is("by(2)", x.by(2), 3);
        due.is("by(3), nothing", x.by(3), NONE);
        x.unpick(0);
        due.is("by(0), a HOLE", x.by(0), 4);
        due.is("by(1), nothing", x.by(1), NONE);
        x.sew(0, 4);
        due.is("by(0), DARNED", x.by(0), NONE);
        x.unpick(0);
        due.is("by(0), a HOLE without a GAP", x.by(0), NONE);
        for (int y : new int[] {-1, 5, MAX, MIN}) {
            due.refuses("by(" + y + ")", x, BAD, () -> x.by(y));
        }
    }

    private static void brokenIs(SewnAhead x, int laws, int year) {
        due.is("broken()", x.broken(), laws);
        due.is("broken(), then asked()", x.asked(), year);
    }

    private static void broken() {
        brokenIs(Due.cloth("y2-01 b01 k34"), 1, 2);
        brokenIs(Due.cloth("y1-01 b01"), 1, 0);
        brokenIs(Due.cloth("y2-34 k42 b43 b24"), 3, 0);
        brokenIs(Due.cloth("y-234 b33 b43 l12"), 2, 2);
        brokenIs(Due.cloth("y--34 b30 l12"), 0, NONE);
        brokenIs(Due.cloth("y-1- k22 l12 b21"), 4, 1);
        SewnAhead x = Due.cloth("y01 b01");
        brokenIs(x, 1, 0);
        x.unpick(0);
        brokenIs(x, 0, NONE);
        x.undo(0);
        brokenIs(x, 1, 0);
    }

    private static void can() {
        SewnAhead x = Due.cloth("y0-- b01 l12");
        long before = x.digest();
        due.is("can(1)", x.can(1), 29);
        due.is("can(2)", x.can(2), 31);
        due.is("can changes nothing", x.digest(), before);
        due.refuses("can(0), SEWN", x, STATE, () -> x.can(0));
        x.unpick(0);
        due.is("can(0), a HOLE", x.can(0), 31);
        x.sew(1, 1);
        due.is("can(0), a HOLE, 1 beside", x.can(0), 30);
        due.refuses("can(1), SEWN", x, STATE, () -> x.can(1));
        for (int y : new int[] {-1, 3, 5, MAX, MIN}) {
            due.refuses("can(" + y + ")", x, BAD, () -> x.can(y));
        }
        due.is("broken elsewhere", Due.cloth("y01- b01").can(2), 0);
        due.is("by what comes of it", Due.cloth("y2-- l13 k23").can(1), 31 - 2 - 8);
        due.is("a SCENE twice", Due.cloth("y2-3 k22 k33").can(1), 31 - 4 - 8);
        SewnAhead full = Due.cloth("y0- b01");
        for (int i = 0; i < 20; i++) {
            full.sew(1, 1);
            full.unpick(1);
        }
        due.is("can(1) with 40 STITCHES", full.can(1), 29);
    }

    private static void safe() {
        SewnAhead x = Due.cloth("y0-- b12");
        long before = x.digest();
        due.is("safe(0)", x.safe(0), 25);
        due.is("safe(1)", x.safe(1), 25);
        due.is("safe changes nothing", x.digest(), before);
        for (int y : new int[] {-1, 2, 3, 4, MAX, MIN}) {
            due.refuses("safe(" + y + ")", x, BAD, () -> x.safe(y));
        }
        due.is("all SEWN", Due.cloth("y00 b12").safe(0), 25);
        due.is("no BARS", Due.cloth("y00 l12").safe(0), 31);
        due.is("what comes of the YEAR behind", Due.cloth("y--- l12 b12").safe(0), 0);
        due.is("what comes of it", Due.cloth("y--- e12 k12").safe(0), 25);
        due.is("others as they are", Due.cloth("y1--2 b12").safe(0), 25);
        due.is("others as they are, broken", Due.cloth("y--12 b12").safe(0), 0);
        due.is("the YEAR behind beside others", Due.cloth("y--12 b12").safe(1), 0);
        due.is("beside the YEAR behind it", Due.cloth("y---1 b13").safe(1), 0);
        SewnAhead z = Due.cloth("y12- b12");
        z.unpick(1);
        due.is("a HOLE", z.safe(1), 25);
        due.is("a HOLE behind", z.safe(0), 25);
        due.is("a SCENE that breaks behind none but the first", Due.cloth("y--- b04").safe(1), 31 - 1 - 16);
    }

    private static void noYears() {
        SewnAhead x = new SewnAhead();
        happensIn(x, 0, 0, 0);
        brokenIs(x, 0, NONE);
        due.refuses("by(0), no YEARS", x, BAD, () -> x.by(0));
        due.refuses("can(0), no YEARS", x, BAD, () -> x.can(0));
        due.refuses("safe(0), no YEARS", x, BAD, () -> x.safe(0));
        due.refuses("safe(-1), no YEARS", x, BAD, () -> x.safe(-1));
    }
}
