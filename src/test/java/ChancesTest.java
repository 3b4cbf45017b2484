/** Promises 34 and 35: odds, lots. */
public final class ChancesTest {
    private static final Due due = new Due("ChancesTest");
    private static final int BAD = SewnAhead.BAD, FULL = SewnAhead.FULL, STATE = SewnAhead.STATE;
    private static final int MAX = Integer.MAX_VALUE, MIN = Integer.MIN_VALUE;

    public static void main(String[] args) {
        odds();
        oddsRefused();
        lots();
        lotsAsStitches();
        lotsRefused();
        due.end();
    }

    private static void oddsAre(SewnAhead x, int scene, int y, long upper, long lower) {
        long before = x.digest();
        String call = "odds(" + scene + ", " + y + ")";
        due.is(call, x.odds(scene, y), 1);
        due.fraction(call, x, upper, lower);
        due.is("odds changes nothing", x.digest(), before);
    }

    private static void odds() {
        oddsAre(Due.cloth("y--"), 2, 0, 1, 6);
        SewnAhead x = Due.cloth("y0- l01");
        oddsAre(x, 1, 1, 1, 3);
        oddsAre(x, 2, 1, 1, 6);
        oddsAre(x, 0, 0, 1, 1);
        oddsAre(x, 1, 0, 0, 1);
        SewnAhead z = Due.cloth("y--- l01");
        oddsAre(z, 0, 0, 1, 6);
        oddsAre(z, 1, 1, 7, 36);
        oddsAre(z, 1, 2, 7, 36);
        SewnAhead all = Due.cloth("y----- l00");
        oddsAre(all, 0, 0, 1, 6);
        oddsAre(all, 0, 1, 7, 36);
        oddsAre(all, 0, 2, 43, 216);
        oddsAre(all, 0, 4, 1555, 7776);
        oddsAre(Due.cloth("y0-- l01 b01 k02"), 1, 1, 1, 3);
        SewnAhead hole = Due.cloth("y0- g01 l12");
        hole.unpick(0);
        oddsAre(hole, 1, 0, 1, 1);
        oddsAre(hole, 2, 1, 1, 3);
        oddsAre(Due.cloth("y01234"), 3, 3, 1, 1);
        oddsAre(Due.cloth("y01234"), 3, 4, 0, 1);
    }

    private static void oddsRefused() {
        SewnAhead x = Due.cloth("y0- l01");
        x.odds(1, 1);
        due.refuses("odds(5, 0)", x, BAD, () -> x.odds(5, 0));
        due.refuses("odds(-1, 0)", x, BAD, () -> x.odds(-1, 0));
        due.refuses("odds(0, 2)", x, BAD, () -> x.odds(0, 2));
        due.refuses("odds(0, -1)", x, BAD, () -> x.odds(0, -1));
        SewnAhead none = new SewnAhead();
        due.refuses("odds(0, 0), no YEARS", none, BAD, () -> none.odds(0, 0));
    }

    /** From the seed 1: 48271, 182605794, 1291394886, 1914720637. */
    private static void lots() {
        SewnAhead x = Due.cloth("y-- b13");
        due.is("lots(1, 1)", x.lots(1, 1), 0);
        due.happening("lots(1, 1)", x, "-3");
        due.is("count(2)", x.count(2), 1);
        SewnAhead z = Due.cloth("y-- b13");
        due.is("lots(2, 1)", z.lots(2, 1), 1);
        due.happening("lots(2, 1)", z, "13");
        due.is("undo(1)", z.undo(1), 1);
        due.happening("lots(2, 1), undo(1)", z, "-3");
        SewnAhead w = Due.cloth("y-- b13 g12");
        due.is("lots(3, 1)", w.lots(3, 1), 0);
        due.happening("lots(3, 1)", w, "23");
        SewnAhead v = Due.cloth("y-- b13 g12");
        due.is("lots(4, 1)", v.lots(4, 1), 0);
        due.happening("lots(4, 1)", v, "2-");
        due.is("count(2)", v.count(2), 4);
        due.is("count(3)", v.count(3), 2);
    }

    /** The same STITCHES made one by one. */
    private static void lotsAsStitches() {
        String[] cloths = {"y--", "y0-2 b01 k22", "y01234 g01 g12 k34 b20", "y-3-1 s01 l34",
            "y0---- l01 e02 b12 k00 k11"};
        int[] seeds = {1, 2, 77, 31337, 1000000007, MAX - 1};
        for (String cloth : cloths) {
            for (int seed : seeds) {
                for (int n = 1; n <= 10; n++) {
                    sameStitches(cloth, n, seed);
                }
            }
        }
    }

    private static void sameStitches(String cloth, int n, int seed) {
        SewnAhead x = Due.cloth(cloth);
        SewnAhead z = Due.cloth(cloth);
        java.math.BigInteger lot = java.math.BigInteger.valueOf(seed);
        int brokenThen = 0;
        for (int i = 0; i < n; i++) {
            lot = lot.multiply(java.math.BigInteger.valueOf(48271)).mod(java.math.BigInteger.valueOf(MAX));
            int y = lot.mod(java.math.BigInteger.valueOf(z.count(0))).intValue();
            z.year(y, 0);
            brokenThen = z.asked() == 1 ? z.unpick(y) : z.sew(y, lot.intValue() / 32 % 5);
        }
        String call = "lots(" + n + ", " + seed + ") on " + cloth;
        due.is(call, x.lots(n, seed), brokenThen);
        due.is(call + ", digest()", x.digest(), z.digest());
        due.is(call + ", undo(0)", x.undo(0), n);
        due.is(call + ", undone", x.digest(), Due.cloth(cloth).digest());
    }

    private static void lotsRefused() {
        SewnAhead x = Due.cloth("y0-");
        for (int n : new int[] {-1, 0, 11, MAX, MIN}) {
            due.refuses("lots(" + n + ", 1)", x, BAD, () -> x.lots(n, 1));
        }
        for (int seed : new int[] {-1, 0, MAX, MIN}) {
            due.refuses("lots(1, " + seed + ")", x, BAD, () -> x.lots(1, seed));
        }
        for (int i = 0; i < 3; i++) {
            x.lots(10, 5);
        }
        x.lots(1, 5);
        due.refuses("lots(10, 5), FULL", x, FULL, () -> x.lots(10, 5));
        due.refuses("lots(11, 5), FULL", x, BAD, () -> x.lots(11, 5));
        x.lots(9, 5);
        due.is("lots, count(2)", x.count(2), 40);
        due.refuses("lots(1, 5), FULL", x, FULL, () -> x.lots(1, 5));
        SewnAhead none = new SewnAhead();
        due.refuses("lots(1, 1), no YEARS", none, STATE, () -> none.lots(1, 1));
        due.refuses("lots(0, 1), no YEARS", none, BAD, () -> none.lots(0, 1));
        due.refuses("lots(1, 0), no YEARS", none, BAD, () -> none.lots(1, 0));
    }
}
