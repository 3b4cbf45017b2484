/** The edges that the document names in promises 34 and 35, a sentence each. */
public final class EdgesChancesTest {
    private static final Due due = new Due("EdgesChancesTest");
    private static final int NONE = SewnAhead.NONE;
    private static final int MAX = Integer.MAX_VALUE, MIN = Integer.MIN_VALUE;

    public static void main(String[] args) {
        odds();
        oddsRefused();
        lots();
        lotsOfSeeds();
        lotsRefused();
        lotsFull();
        due.end();
    }

    private static void oddsAre(SewnAhead x, int scene, int y, long upper, long lower) {
        long before = x.digest();
        int told = x.asked();
        due.is("odds(" + scene + ", " + y + ")", x.odds(scene, y), 1);
        due.fraction("odds(" + scene + ", " + y + ")", x, upper, lower);
        due.is("digest()", x.digest(), before);
        due.is("asked()", x.asked(), told);
    }

    private static void odds() {
        due.sentence("34 odds: if each PLAIN YEAR stays so, or is SEWN with one of all SCENES, all six alike likely");
        oddsAre(Due.cloth("y--"), 0, 0, 1, 6);
        oddsAre(Due.cloth("y--"), 4, 1, 1, 6);
        oddsAre(Due.cloth("y-- l01"), 1, 1, 7, 36);
        oddsAre(Due.cloth("y0- l00"), 0, 1, 1, 3);
        oddsAre(Due.cloth("y----- l00"), 0, 4, 1555, 7776);
        oddsAre(Due.cloth("y----- l00 l11 l22 l33 l44"), 3, 4, 1555, 7776);
        oddsAre(Due.cloth("y--"), 0, 1, 1, 6);
        due.sentence("34 odds: what is BROKEN does not bear on it");
        oddsAre(Due.cloth("y0- b00 b01 k01"), 1, 1, 1, 6);
        due.sentence("34 odds: SEWN YEARS and HOLES stay as they are");
        oddsAre(Due.cloth("y01234"), 4, 4, 1, 1);
        oddsAre(Due.cloth("y01234"), 0, 4, 0, 1);
        SewnAhead hole = Due.cloth("y0- g03 l34");
        hole.unpick(0);
        oddsAre(hole, 3, 0, 1, 1);
        oddsAre(hole, 0, 0, 0, 1);
        oddsAre(hole, 4, 1, 1, 3);
        due.sentence("Chances in lowest terms, the lower number above 0 (0 by 1)");
        oddsAre(Due.cloth("y-- l01 l02"), 2, 1, 1, 6);
        oddsAre(Due.cloth("y0-- e02 l01"), 2, 2, 1, 3);
        oddsAre(Due.cloth("y0-- l01 e02"), 2, 2, 11, 36);
        oddsAre(Due.cloth("y0-- l01 l12"), 4, 0, 0, 1);
        oddsAre(Due.full("y0-"), 0, 1, 0, 1);
    }

    private static void oddsRefused() {
        due.sentence("34 odds: BAD");
        for (int scene : new int[] {-1, 5, 6, NONE, MAX, MIN}) {
            due.bad("odds(" + scene + ", 0)", Due::rich, x -> x.odds(scene, 0));
        }
        for (int y : new int[] {-1, 5, 6, NONE, MAX, MIN}) {
            due.bad("odds(0, " + y + ")", Due::rich, x -> x.odds(0, y));
        }
        due.bad("odds(0, 2), of two", () -> Due.cloth("y--"), x -> x.odds(0, 2));
        due.bad("odds(0, 0), no YEARS", SewnAhead::new, x -> x.odds(0, 0));
    }

    /** From the seed 1: 48271, 182605794, 1291394886, 1914720637. */
    private static void lots() {
        due.sentence("35 lots: n (1 .. 10) STITCHES truly");
        SewnAhead x = Due.cloth("y--");
        due.is("lots(1, 1)", x.lots(1, 1), 0);
        due.is("count(2)", x.count(2), 1);
        due.is("lots(10, 1)", x.lots(10, 1), 0);
        due.is("count(2)", x.count(2), 11);
        due.is("undo(1)", x.undo(1), 10);
        due.is("undo(0)", x.undo(0), 1);
        due.sentence("35 lots: a number comes from the one ahead, the first from the seed");
        SewnAhead z = Due.cloth("y-----");
        due.is("lots(3, 1)", z.lots(3, 1), 0);
        // 48271 is 1 modulo 5, and 1508 by 32: 3; 182605794 is 4, 5706431: 1; 1291394886 is 1
        due.happening("lots(3, 1)", z, "----1");
        due.tells("year(1, 0), a HOLE", z, 2, () -> z.year(1, 0));
        due.tells("year(1, 1), what was there", z, 3, () -> z.year(1, 1));
        due.sentence("35 lots: what is SEWN there is UNPICKED, else the SCENE");
        SewnAhead sewn = Due.cloth("y04 g42");
        due.is("lots(1, 1), SEWN", sewn.lots(1, 1), 0);
        due.happening("lots(1, 1), UNPICKED", sewn, "02");
        due.is("lots(1, 1), a HOLE", sewn.lots(1, 1), 0);
        due.happening("lots(1, 1), DARNED", sewn, "03");
        due.sentence("35 lots: how many LAWS are BROKEN then");
        due.is("lots(1, 1), both", Due.cloth("y0- b03 k03 b01").lots(1, 1), 2);
        due.is("lots(1, 1), none any more", Due.cloth("y01 b01").lots(1, 1), 0);
    }

    private static void lotsOfSeeds() {
        due.sentence("35 lots: 48271 times it modulo 2147483647, the seed (1 .. 2147483646)");
        // 2147483646: 2147435376 is 0 modulo 2, and 67107355 by 32: 0; 1964877853 is 1, 61402432: 2
        SewnAhead x = Due.cloth("y--");
        due.is("lots(2, 2147483646)", x.lots(2, MAX - 1), 0);
        due.happening("lots(2, 2147483646)", x, "02");
        // 44489: 2147528519 - 2147483647 = 44872 is 0 modulo 2, and 1402 by 32: 2
        SewnAhead z = Due.cloth("y--");
        due.is("lots(1, 44489)", z.lots(1, 44489), 0);
        due.happening("lots(1, 44489)", z, "2-");
        // 44488: 2147480248 is 0 modulo 2, and 67108757 by 32: 2
        SewnAhead w = Due.cloth("y--");
        due.is("lots(1, 44488)", w.lots(1, 44488), 0);
        due.happening("lots(1, 44488)", w, "2-");
    }

    private static void lotsRefused() {
        due.sentence("35 lots: BAD");
        for (int n : new int[] {0, -1, 11, 12, NONE, MAX, MIN}) {
            due.bad("lots(" + n + ", 1)", Due::rich, x -> x.lots(n, 1));
            due.bad("lots(" + n + ", 1), no YEARS", SewnAhead::new, x -> x.lots(n, 1));
            due.bad("lots(" + n + ", 1), FULL", () -> Due.full("y0-"), x -> x.lots(n, 1));
        }
        for (int seed : new int[] {0, -1, NONE, MAX, MIN}) {
            due.bad("lots(1, " + seed + ")", Due::rich, x -> x.lots(1, seed));
            due.bad("lots(1, " + seed + "), no YEARS", SewnAhead::new, x -> x.lots(1, seed));
            due.bad("lots(1, " + seed + "), FULL", () -> Due.full("y0-"), x -> x.lots(1, seed));
        }
        due.sentence("35 lots: STATE: no YEARS");
        due.state("lots(1, 1)", SewnAhead::new, x -> x.lots(1, 1));
        due.state("lots(10, 2147483646)", SewnAhead::new, x -> x.lots(10, MAX - 1));
    }

    private static SewnAhead stitched(int n) {
        SewnAhead x = Due.full("y0-2");
        x.undo(n);
        return x;
    }

    private static void lotsFull() {
        due.sentence("35 lots: FULL: with n more there would be more than 40. (FULL last.)");
        due.full("lots(1, 1), 40", () -> stitched(40), x -> x.lots(1, 1));
        due.full("lots(10, 1), 40", () -> stitched(40), x -> x.lots(10, 1));
        due.full("lots(2, 1), 39", () -> stitched(39), x -> x.lots(2, 1));
        due.full("lots(10, 1), 31", () -> stitched(31), x -> x.lots(10, 1));
        for (int n = 1; n <= 10; n++) {
            SewnAhead x = stitched(40 - n);
            due.holds("lots(" + n + ", 1), " + (40 - n), x.lots(n, 1) >= 0);
            due.is("count(2)", x.count(2), 40);
        }
    }
}
