import java.util.function.Supplier;
import java.util.function.ToIntFunction;

/** The edges that the document names in promises 30 to 33 and for ROWS of what HAPPENED, a sentence each. */
public final class EdgesWasThereTest {
    private static final Due due = new Due("EdgesWasThereTest");
    private static final int NONE = SewnAhead.NONE;
    private static final int MAX = Integer.MAX_VALUE, MIN = Integer.MIN_VALUE;
    private static final int NOTHING = 1, UNLIKE = 3, SIZE = 5;
    private static final int[] NO_ROWS = {-1, 6, 7, NONE, MAX, MIN};
    private static final int LAW = 1, BAR = 2, GAP = 4, ECHO = 8, KNOT = 16, STORM = 32;

    public static void main(String[] args) {
        histories();
        was();
        wasRefused();
        kinds();
        kindsRefused();
        needed();
        forged();
        forgedRefused();
        due.end();
    }

    private static SewnAhead told(SewnAhead x, int... happened) {
        Due.fill(x, 4, happened);
        return x;
    }

    /** YEAR 0 SEWN, 1 PLAIN, 2 a HOLE. */
    private static SewnAhead each() {
        SewnAhead x = Due.cloth("y0-2 l01 g23");
        x.unpick(2);
        return x;
    }

    /** The refusals that was(), kinds(), forged() have in common, by ROW 4 and the missing ROW 5. */
    private static void historiesOf(String call, ToIntFunction<SewnAhead> of4, ToIntFunction<SewnAhead> of5) {
        due.found(call + ", missing", NOTHING, EdgesWasThereTest::each, of5);
        int[][] sizes = {{}, {0}, {0, 1}, {0, 1, 3, 3}, {9, 9}, {9, 9, 9, 9}, new int[40]};
        for (int[] happened : sizes) {
            Supplier<SewnAhead> made = () -> told(each(), happened);
            due.found(call + ", " + happened.length + " ints", SIZE, made, of4);
        }
        for (int v : new int[] {5, 6, 7, -1, -2, -8, -10, MAX, MIN}) {
            for (int y = 0; y < 3; y++) {
                int[] happened = {0, 1, 3};
                happened[y] = v;
                Supplier<SewnAhead> made = () -> told(each(), happened);
                due.found(call + ", " + v + " in YEAR " + y, UNLIKE, made, of4);
            }
        }
        due.found(call + ", each YEAR, once", UNLIKE, () -> told(each(), 5, 5, 5), of4);
    }

    private static void histories() {
        due.sentence("a ROW tells what HAPPENED in each YEAR: a SCENE, or NONE; SIZE; UNLIKE: neither");
        historiesOf("was", x -> x.was(2, 4), x -> x.was(2, 5));
        historiesOf("kinds", x -> x.kinds(0, 4), x -> x.kinds(0, 5));
        historiesOf("forged", x -> x.forged(4), x -> x.forged(5));
        for (int v : new int[] {NONE, 0, 1, 2, 3, 4}) {
            due.holds("was, " + v, told(each(), v, v, v).was(2, 4) >= 0);
            due.holds("kinds, " + v, told(each(), v, v, v).kinds(0, 4) >= 0);
            due.holds("forged, " + v, told(each(), v, v, v).forged(4) >= 0);
        }
    }

    private static void wasIs(SewnAhead x, int y, int want, int... happened) {
        Due.fill(x, 4, happened);
        long before = x.digest();
        int told = x.asked();
        due.is("was(" + y + ", 4)", x.was(y, 4), want);
        due.is("digest()", x.digest(), before);
        due.is("asked()", x.asked(), told);
    }

    private static SewnAhead unpicked(String cloth, int... years) {
        SewnAhead x = Due.cloth(cloth);
        for (int y : years) {
            x.unpick(y);
        }
        return x;
    }

    private static void was() {
        due.sentence("30 was: SCENES (bits) that can have been in a HOLE so that all HAPPENED as in a ROW");
        wasIs(unpicked("y0-", 0), 0, 31, NONE, NONE);
        wasIs(unpicked("y0-", 0), 0, 0, 0, NONE);
        wasIs(unpicked("y00 g04 g14 g24 g34 g44", 0), 0, 31, 4, 0);
        wasIs(unpicked("y00 g04 g14 g24 g34 g44", 0), 0, 0, NONE, 0);
        wasIs(unpicked("y01 g42", 0), 0, 16, 2, 1);
        wasIs(unpicked("y01 g42", 0), 0, 15, NONE, 1);
        wasIs(unpicked("y00 g01 g02", 0), 0, 1, 1, 0);
        wasIs(unpicked("y00 g01 g02", 0), 0, 0, 2, 0);
        wasIs(unpicked("y0--- g23 l34", 0), 0, 4, 3, 4, NONE, NONE);
        wasIs(unpicked("y0--- g23 l34", 0), 0, 0, 3, NONE, NONE, NONE);
        wasIs(unpicked("y00000 g01", 4), 4, 30, 0, 0, 0, 0, NONE);
        due.sentence("30 was: another HOLE stays as it is");
        wasIs(unpicked("y00 g01", 0, 1), 0, 1, 1, 1);
        wasIs(unpicked("y00 g01", 0, 1), 0, 30, NONE, 1);
        wasIs(unpicked("y00 g01", 0, 1), 0, 0, 1, NONE);
    }

    private static void wasRefused() {
        due.sentence("30 was: BAD");
        for (int y : new int[] {-1, 5, 6, NONE, MAX, MIN}) {
            due.bad("was(" + y + ", 0)", Due::rich, x -> x.was(y, 0));
        }
        for (int r : NO_ROWS) {
            due.bad("was(2, " + r + ")", Due::rich, x -> x.was(2, r));
            due.bad("was(4, " + r + "), SEWN too", Due::rich, x -> x.was(4, r));
        }
        due.bad("was(3, 0), of three", EdgesWasThereTest::each, x -> x.was(3, 0));
        due.bad("was(0, 0), no YEARS", SewnAhead::new, x -> x.was(0, 0));
        due.sentence("30 was: STATE: it is no HOLE; NOTHING; SIZE; UNLIKE. (In this order.)");
        due.state("was(0, 4), SEWN", () -> told(each(), 0, 1, 3), x -> x.was(0, 4));
        due.state("was(1, 4), PLAIN", () -> told(each(), 0, 1, 3), x -> x.was(1, 4));
        due.state("was(0, 5), SEWN, missing", EdgesWasThereTest::each, x -> x.was(0, 5));
        due.state("was(1, 4), PLAIN, a SIZE", () -> told(each(), 9), x -> x.was(1, 4));
        due.state("was(1, 4), PLAIN, UNLIKE", () -> told(each(), 9, 9, 9), x -> x.was(1, 4));
        due.state("was(0, 4), DARNED", Due::rich, x -> x.was(0, 4));
    }

    private static void kindsAre(SewnAhead x, int k, int want, int... happened) {
        Due.fill(x, 4, happened);
        long before = x.digest();
        int told = x.asked();
        due.is("kinds(" + k + ", 4)", x.kinds(k, 4), want);
        due.is("digest()", x.digest(), before);
        due.is("asked()", x.asked(), told);
    }

    private static void kinds() {
        due.sentence("31 kinds: KINDS (bits) of which a LAW can be so that all HAPPENED as in a ROW");
        kindsAre(Due.cloth("y01 l23"), 0, 63, 0, 1);
        kindsAre(Due.cloth("y01 l23"), 0, 0, 0, 2);
        kindsAre(Due.cloth("y0-- k01"), 0, LAW, 0, 1, NONE);
        kindsAre(Due.cloth("y0-- k01"), 0, ECHO, 0, NONE, 1);
        kindsAre(Due.cloth("y0-- k01"), 0, STORM, 0, 1, 1);
        kindsAre(Due.cloth("y0-- s01"), 0, BAR + GAP + KNOT, 0, NONE, NONE);
        kindsAre(unpicked("y0- l02", 0), 0, GAP, 2, NONE);
        kindsAre(unpicked("y0- g02", 0), 0, 63 - GAP, NONE, NONE);
        kindsAre(Due.cloth("y0-- l00 l00 l00 l00 l00 l00 l00 b01"), 7, 63, 0, 0, 0);
        kindsAre(Due.cloth("y0-- l44 l44 l44 l44 l44 l44 l44 b01"), 7, LAW, 0, 1, NONE);
        due.sentence("31 kinds: what is BROKEN does not bear on it");
        kindsAre(Due.cloth("y01 b01"), 0, 63, 0, 1);
    }

    private static void kindsRefused() {
        due.sentence("31 kinds: BAD");
        for (int k : new int[] {-1, 7, 8, NONE, MAX, MIN}) {
            due.bad("kinds(" + k + ", 2)", Due::rich, x -> x.kinds(k, 2));
            due.bad("kinds(" + k + ", 5), missing too", Due::rich, x -> x.kinds(k, 5));
        }
        for (int r : NO_ROWS) {
            due.bad("kinds(0, " + r + ")", Due::rich, x -> x.kinds(0, r));
        }
        due.bad("kinds(0, 4), no LAWS", () -> told(Due.cloth("y01"), 0, 1), x -> x.kinds(0, 4));
        due.bad("kinds(0, 0), no YEARS", SewnAhead::new, x -> x.kinds(0, 0));
    }

    private static void neededAre(SewnAhead x, int want) {
        long before = x.digest();
        due.is("needed()", x.needed(), want);
        due.is("digest()", x.digest(), before);
        due.is("asked()", x.asked(), 0);
    }

    private static void needed() {
        due.sentence("32 needed: LAWS (bits) without each of which (alone) something else HAPPENS than now");
        neededAre(new SewnAhead(), 0);
        neededAre(Due.cloth("y--"), 0);
        neededAre(Due.cloth("y01 l01 b01 g01 e01 k01 s01"), 0);
        neededAre(Due.cloth("y0- l01"), 1);
        neededAre(Due.cloth("y0- l44 l44 l44 l44 l44 l44 l44 l01"), 128);
        neededAre(Due.cloth("y0- l01 l01"), 0);
        neededAre(Due.cloth("y0- l01 l02"), 1);
        neededAre(Due.cloth("y0- l01 s01 e34"), 0);
        neededAre(Due.cloth("y0--- l01 l12 l23"), 7);
        neededAre(Due.cloth("y0-- s01 l01"), 1);
        neededAre(unpicked("y0- g01 g01", 0), 0);
        neededAre(unpicked("y0- g01 g02", 0), 1);
        neededAre(unpicked("y02 g01 g21", 0, 1), 3);
    }

    private static void forgedIs(SewnAhead x, int plans, int year, int... happened) {
        Due.fill(x, 4, happened);
        long before = x.digest();
        due.is("forged(4)", x.forged(4), plans);
        due.is("forged(4), then asked()", x.asked(), year);
        due.is("digest()", x.digest(), before);
    }

    private static void forged() {
        due.sentence("33 forged: How many PLANS with one STITCH at most make it HAPPEN as in a ROW");
        forgedIs(Due.cloth("y0- l01"), 2, 1, 0, 1);
        forgedIs(Due.cloth("y-- l01"), 1, 0, 0, 1);
        forgedIs(Due.cloth("y--"), 0, NONE, 0, 1);
        forgedIs(Due.cloth("y0---- l00"), 5, 1, 0, 0, 0, 0, 0);
        forgedIs(Due.cloth("y00000 g00"), 6, 0, 0, 0, 0, 0, 0);
        due.sentence("33 forged: what is BROKEN does not bear on it");
        SewnAhead behind = Due.cloth("y0- b01");
        behind.least(4, 1, 0);
        forgedIs(behind, 1, 1, 0, 1);
        behind.odds(0, 0);
        forgedIs(behind, 1, 0, NONE, NONE);
        due.sentence("33 forged: the YEAR of the first");
        forgedIs(Due.cloth("y0---4"), 1, 4, 0, NONE, NONE, NONE, NONE);
        forgedIs(Due.cloth("y0---4"), 1, 0, NONE, NONE, NONE, NONE, 4);
        forgedIs(Due.cloth("y0- l01 b01"), 2, 1, 0, 1);
        forgedIs(Due.full("y0-"), 1, 1, 0, 4);
        due.sentence("33 forged: (NONE: with none, or there is none)");
        forgedIs(Due.cloth("y01"), 1, NONE, 0, 1);
        forgedIs(Due.cloth("y--"), 1, NONE, NONE, NONE);
        forgedIs(Due.cloth("y01"), 0, NONE, 4, 4);
        forgedIs(Due.cloth("y0-"), 0, NONE, 1, NONE);
    }

    private static void forgedRefused() {
        due.sentence("33 forged: BAD");
        for (int r : NO_ROWS) {
            due.bad("forged(" + r + ")", Due::rich, x -> x.forged(r));
            due.bad("forged(" + r + "), no YEARS", SewnAhead::new, x -> x.forged(r));
        }
        due.sentence("33 forged: STATE: no YEARS; NOTHING; SIZE; UNLIKE. (In this order.)");
        due.state("forged(0), missing", SewnAhead::new, x -> x.forged(0));
        due.state("forged(4), of no ints", () -> told(new SewnAhead()), x -> x.forged(4));
        due.state("forged(4), UNLIKE", () -> told(new SewnAhead(), 9), x -> x.forged(4));
    }
}
