/** Promises 30 to 33: was, kinds, needed, forged. */
public final class WasThereTest {
    private static final Due due = new Due("WasThereTest");
    private static final int BAD = SewnAhead.BAD, STATE = SewnAhead.STATE, NONE = SewnAhead.NONE;
    private static final int MAX = Integer.MAX_VALUE, MIN = Integer.MIN_VALUE;
    private static final int NOTHING = 1, UNLIKE = 3, SIZE = 5;

    /** ROWS that tell nothing of a CLOTH of two YEARS. */
    private static final int[][] TOO_MANY = {{}, {0}, {0, 0, 0}, {7, 7, 7}};
    private static final int[][] UNTOLD = {{5, 0}, {0, 5}, {-1, 0}, {0, -1}, {0, -8}, {-10, 0}, {0, MAX}, {MIN, 0}};

    public static void main(String[] args) {
        was();
        wasRefused();
        kinds();
        kindsRefused();
        needed();
        forged();
        forgedRefused();
        due.end();
    }

    private static void wasIs(SewnAhead x, int y, int want, int... happened) {
        Due.fill(x, 4, happened);
        long before = x.digest();
        due.is("was(" + y + ", 4)", x.was(y, 4), want);
        due.is("was changes nothing", x.digest(), before);
    }

    private static void was() {
        SewnAhead x = Due.cloth("y0- g01 g21 l12 g03");
        x.unpick(0);
        wasIs(x, 0, 1 + 4, 1, 2);
        wasIs(x, 0, 2 + 8 + 16, NONE, NONE);
        wasIs(x, 0, 0, 1, NONE);
        wasIs(x, 0, 0, 3, NONE);
        wasIs(x, 0, 0, NONE, 2);
        SewnAhead z = Due.cloth("y012 g44 g34 g20");
        z.unpick(1);
        z.unpick(2);
        wasIs(z, 1, 8 + 16, 0, 4, 0);
        wasIs(z, 1, 4, 0, 0, 0);
        wasIs(z, 2, 1 + 2, 0, NONE, NONE);
        wasIs(z, 2, 4, 0, NONE, 0);
        wasIs(z, 2, 8 + 16, 0, NONE, 4);
        wasIs(z, 1, 0, 0, 4, 4);
    }

    private static void wasRefused() {
        SewnAhead x = Due.cloth("y01-");
        x.unpick(0);
        due.refuses("was(-1, 0)", x, BAD, () -> x.was(-1, 0));
        due.refuses("was(3, 0)", x, BAD, () -> x.was(3, 0));
        due.refuses("was(0, 6)", x, BAD, () -> x.was(0, 6));
        due.refuses("was(0, -1)", x, BAD, () -> x.was(0, -1));
        due.refuses("was(1, 6), SEWN", x, BAD, () -> x.was(1, 6));
        due.refuses("was(1, 0), SEWN", x, STATE, () -> x.was(1, 0));
        due.refuses("was(2, 0), PLAIN", x, STATE, () -> x.was(2, 0));
        SewnAhead none = new SewnAhead();
        due.refuses("was(0, 0), no YEARS", none, BAD, () -> none.was(0, 0));
        SewnAhead z = Due.cloth("y01");
        z.unpick(0);
        historyRefused("was", z, () -> z.was(0, 2));
    }

    private static void historyRefused(String call, SewnAhead x, java.util.function.IntSupplier call0) {
        due.finds(call + ", missing", x, NOTHING, call0);
        for (int[] happened : TOO_MANY) {
            Due.fill(x, 2, happened);
            due.finds(call + ", a SIZE", x, SIZE, call0);
        }
        for (int[] happened : UNTOLD) {
            Due.fill(x, 2, happened);
            due.finds(call + " " + happened[0] + ", " + happened[1], x, UNLIKE, call0);
        }
    }

    private static void kindsAre(SewnAhead x, int k, int want, int... happened) {
        Due.fill(x, 4, happened);
        long before = x.digest();
        due.is("kinds(" + k + ", 4)", x.kinds(k, 4), want);
        due.is("kinds changes nothing", x.digest(), before);
    }

    private static void kinds() {
        int law = 1, bar = 2, gap = 4, echo = 8, knot = 16, storm = 32;
        kindsAre(Due.cloth("y0- l01"), 0, law + storm, 0, 1);
        kindsAre(Due.cloth("y0- l01"), 0, bar + gap + echo + knot, 0, NONE);
        kindsAre(Due.cloth("y0- k01"), 0, law + storm, 0, 1);
        kindsAre(Due.cloth("y0-- b01"), 0, law, 0, 1, NONE);
        kindsAre(Due.cloth("y0-- b01"), 0, echo, 0, NONE, 1);
        kindsAre(Due.cloth("y0-- b01"), 0, storm, 0, 1, 1);
        kindsAre(Due.cloth("y0-- b01"), 0, bar + gap + knot, 0, NONE, NONE);
        kindsAre(Due.cloth("y0-- b01"), 0, 0, 0, 2, NONE);
        kindsAre(Due.cloth("y0-- b01"), 0, 0, 1, NONE, NONE);
        kindsAre(Due.cloth("y0-- e02 l01"), 1, law + storm, 0, 1, 2);
        kindsAre(Due.cloth("y0-- e02 l01"), 0, echo, 0, 1, 2);
        SewnAhead x = Due.cloth("y0- l01");
        x.unpick(0);
        kindsAre(x, 0, gap, 1, NONE);
        kindsAre(x, 0, 63 - gap, NONE, NONE);
    }

    private static void kindsRefused() {
        SewnAhead x = Due.cloth("y01 l01");
        due.refuses("kinds(-1, 0)", x, BAD, () -> x.kinds(-1, 0));
        due.refuses("kinds(1, 0)", x, BAD, () -> x.kinds(1, 0));
        due.refuses("kinds(0, 6)", x, BAD, () -> x.kinds(0, 6));
        due.refuses("kinds(0, -1)", x, BAD, () -> x.kinds(0, -1));
        SewnAhead none = new SewnAhead();
        due.refuses("kinds(0, 0), no LAWS", none, BAD, () -> none.kinds(0, 0));
        SewnAhead z = Due.cloth("y01 l01");
        historyRefused("kinds", z, () -> z.kinds(0, 2));
    }

    private static void needs(String cloth, int want) {
        SewnAhead x = Due.cloth(cloth);
        long before = x.digest();
        due.is("needed() of " + cloth, x.needed(), want);
        due.is("needed changes nothing", x.digest(), before);
    }

    private static void needed() {
        needs("y--", 0);
        needs("y0-- l01 l01 l12", 4);
        needs("y0- l01 l02", 1);
        needs("y0- l02 l01", 1);
        needs("y0--- l01 e03 l12 s12", 1 + 2 + 8);
        needs("y01 l01 b01 g01 e01 k01 s01", 0);
        needs("y0-- s01 l12", 1);
        due.is("needed(), no YEARS", new SewnAhead().needed(), 0);
        SewnAhead x = Due.cloth("y00 g01 g02 l12");
        x.unpick(0);
        due.is("needed(), a HOLE", x.needed(), 1);
        x.unpick(1);
        due.is("needed(), two HOLES", x.needed(), 1);
        SewnAhead z = Due.cloth("y00 g01 g01");
        z.unpick(0);
        due.is("needed(), another does as well", z.needed(), 0);
    }

    private static void forgedIs(SewnAhead x, int plans, int year, int... happened) {
        Due.fill(x, 4, happened);
        long before = x.digest();
        due.is("forged(4)", x.forged(4), plans);
        due.is("forged(4), then asked()", x.asked(), year);
        due.is("forged changes nothing", x.digest(), before);
    }

    private static void forged() {
        SewnAhead x = Due.cloth("y0- l01");
        forgedIs(x, 2, 1, 0, 1);
        forgedIs(x, 1, 1, 0, 2);
        forgedIs(x, 1, 0, NONE, NONE);
        forgedIs(x, 0, NONE, 3, 3);
        forgedIs(x, 0, NONE, NONE, 1);
        forgedIs(Due.cloth("y00"), 1, NONE, 0, 0);
        forgedIs(Due.cloth("y00 g00"), 3, 0, 0, 0);
        forgedIs(Due.cloth("y00 g00 b00"), 3, 0, 0, 0);
        forgedIs(Due.cloth("y01 b01"), 1, NONE, 0, 1);
        forgedIs(Due.cloth("y---"), 1, 1, NONE, 3, NONE);
        forgedIs(Due.cloth("y--- l34"), 1, 1, NONE, 3, 4);
        forgedIs(Due.cloth("y---"), 0, NONE, NONE, 3, 4);
        SewnAhead hole = Due.cloth("y0- g03");
        hole.unpick(0);
        forgedIs(hole, 2, 0, 3, NONE);
        forgedIs(hole, 1, 0, 4, NONE);
        forgedIs(hole, 0, NONE, NONE, NONE);
    }

    private static void forgedRefused() {
        SewnAhead x = Due.cloth("y01 l01");
        due.refuses("forged(-1)", x, BAD, () -> x.forged(-1));
        due.refuses("forged(6)", x, BAD, () -> x.forged(6));
        historyRefused("forged", x, () -> x.forged(2));
        SewnAhead none = new SewnAhead();
        due.refuses("forged(0), no YEARS", none, STATE, () -> none.forged(0));
        due.refuses("forged(6), no YEARS", none, BAD, () -> none.forged(6));
    }
}
