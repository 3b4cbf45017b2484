import java.util.function.Consumer;

/** The edges that the document names in promises 36 to 42, a sentence each. */
public final class EdgesToldTest {
    private static final Due due = new Due("EdgesToldTest");
    private static final int NONE = SewnAhead.NONE;
    private static final int MAX = Integer.MAX_VALUE, MIN = Integer.MIN_VALUE;

    public static void main(String[] args) {
        asked();
        askedStays();
        askedOfRefused();
        fractions();
        count();
        countEach();
        finding();
        findings();
        digest();
        digestOfNothing();
        due.end();
    }

    private static void asked() {
        due.sentence("36 asked: 0 before");
        due.is("asked()", new SewnAhead().asked(), 0);
        due.is("asked(), a CLOTH alone", Due.cloth("y01 b01").asked(), 0);
        due.sentence("36 asked: What the latest lay(), at(), mean(), year(), law(), happens(), broken(), judge(), "
                + "forged() told");
        SewnAhead x = Due.cloth("y034 b34 l01");
        x.row(0, 1);
        tells(x, "lay", 0, z -> z.lay(0, 0, MIN));
        tells(x, "lay", MIN, z -> z.lay(0, 0, MAX));
        tells(x, "at", MAX, z -> z.at(0, 0));
        tells(x, "mean", MAX, z -> z.mean(0));
        tells(x, "year", 4, z -> z.year(2, 1));
        tells(x, "law", 3, z -> z.law(0, 1));
        tells(x, "happens", 4, z -> z.happens(4));
        tells(x, "happens, in none", 0, z -> z.happens(1));
        tells(x, "broken", 1, EdgesToldTest::broken);
        Due.fill(x, 1, 6, 5, 6);
        tells(x, "judge", 5, z -> z.judge(1));
        Due.fill(x, 1, NONE, 3, 4);
        tells(x, "forged", 0, z -> z.forged(1));
        Due.fill(x, 1, 0, 3, 4);
        tells(x, "forged, with none", NONE, z -> z.forged(1));
        tells(x, "at, the same again", 0, z -> z.at(1, 0));
        x.unpick(1);
        tells(x, "broken, none", NONE, EdgesToldTest::broken);
    }

    private static void broken(SewnAhead x) {
        x.broken();
    }

    private static void tells(SewnAhead x, String call, int want, Consumer<SewnAhead> call0) {
        call0.accept(x);
        due.is(call, x.asked(), want);
        due.is(call + ", asked() again", x.asked(), want);
    }

    private static void stays(String call, Consumer<SewnAhead> call0) {
        SewnAhead x = Due.rich();
        call0.accept(x);
        due.is(call, x.asked(), 9);
    }

    private static void askedStays() {
        due.sentence("36 asked: no other call tells by it");
        stays("row", x -> x.row(0, 4));
        stays("tear", x -> x.tear(0));
        stays("copy", x -> x.copy(0, 0, 2, 0, 3));
        stays("text", x -> x.text(3, 4));
        stays("put", x -> x.put(1, 0, 7));
        stays("fault", x -> x.fault(1));
        stays("cloth", x -> x.cloth(0));
        stays("mark", x -> x.mark(1, 1));
        stays("end", x -> x.end(0, 0));
        stays("sew", x -> x.sew(3, 1));
        stays("unpick", x -> x.unpick(1));
        stays("undo", x -> x.undo(0));
        stays("keep", x -> x.keep(1));
        stays("on", x -> x.on(0));
        stays("by", x -> x.by(0));
        stays("can", x -> x.can(3));
        stays("safe", x -> x.safe(3));
        stays("least", x -> x.least(1, 1, 0));
        stays("ways", x -> x.ways(1, 1, 5));
        stays("avert", x -> x.avert(1, 0));
        stays("was", x -> x.was(2, 2));
        stays("kinds", x -> x.kinds(0, 2));
        stays("needed", x -> x.needed());
        stays("odds", x -> x.odds(0, 0));
        stays("lots", x -> x.lots(3, 3));
        stays("upper", x -> x.upper());
        stays("lower", x -> x.lower());
        stays("count", x -> x.count(0));
        stays("finding", x -> x.finding());
        stays("findings", x -> x.findings(1));
        stays("digest", x -> x.digest());
    }

    private static void askedOfRefused() {
        due.sentence("36 asked: that was not refused");
        stays("lay, BEYOND", x -> x.lay(0, 3, 1));
        stays("lay, NOTHING", x -> x.lay(5, 0, 1));
        stays("lay, BAD", x -> x.lay(6, 0, 1));
        stays("at, BEYOND", x -> x.at(0, 3));
        stays("at, NOTHING", x -> x.at(5, 0));
        stays("at, BAD", x -> x.at(-1, 0));
        stays("mean, NOUGHT", x -> x.mean(1));
        stays("mean, NOTHING", x -> x.mean(5));
        stays("mean, BAD", x -> x.mean(6));
        stays("year, BAD", x -> x.year(5, 0));
        stays("law, BAD", x -> x.law(7, 0));
        stays("happens, BAD", x -> x.happens(5));
        stays("judge, BAD", x -> x.judge(6));
        stays("judge, NOTHING", x -> x.judge(5));
        stays("judge, SIZE", x -> x.judge(0));
        stays("judge, UNLIKE", x -> x.judge(2));
        stays("forged, BAD", x -> x.forged(6));
        stays("forged, NOTHING", x -> x.forged(5));
        stays("forged, SIZE", x -> x.forged(0));
    }

    private static void fractions() {
        due.sentence("37 upper: 0 before; 38 lower: 1 before");
        due.fraction("a new object", new SewnAhead(), 0, 1);
        due.fraction("a CLOTH alone", Due.cloth("y--"), 0, 1);
        due.sentence("37 upper: The upper number that was told last; 38 lower: Its lower number");
        SewnAhead x = Due.cloth("y-- l01");
        x.odds(1, 1);
        due.fraction("odds(1, 1)", x, 7, 36);
        due.fraction("odds(1, 1), told again", x, 7, 36);
        x.ways(1, 1, 5);
        due.fraction("ways(1, 1, 5)", x, 7, 1);
        x.odds(0, 0);
        due.fraction("odds(0, 0)", x, 1, 6);
        x.ways(0, 0, 0);
        due.fraction("ways(0, 0, 0)", x, 0, 1);
        due.sentence("37 upper, 38 lower: no other call tells by them, and none that is refused");
        x.odds(1, 1);
        x.least(1, 1, 0);
        x.avert(1, 0);
        x.judge(0);
        x.forged(0);
        x.lots(2, 2);
        x.cloth(0);
        x.odds(5, 0);
        x.odds(0, 2);
        x.ways(0, 0, 6);
        x.ways(0, 0, -1);
        due.fraction("others", x, 7, 36);
    }

    private static void count() {
        due.sentence("39 count: BAD");
        for (int what : new int[] {-1, 9, 10, NONE, MAX, MIN}) {
            due.bad("count(" + what + ")", Due::rich, x -> x.count(what));
            due.bad("count(" + what + "), a new object", SewnAhead::new, x -> x.count(what));
        }
        due.sentence("39 count: none of each, the most of each");
        SewnAhead x = new SewnAhead();
        countsAre(x, 0, 0, 0, 0, 0, 0, 0, 0, 0);
        Due.write(x, 0, "y00000 b00 k00 b00 k00 b00 k00 b00 k00");
        x.cloth(0);
        for (int r = 0; r < 6; r++) {
            x.row(r, r == 0 ? 0 : 40);
        }
        for (int t = 1; t < 4; t++) {
            x.text(t, t == 1 ? 0 : 60);
        }
        for (int k = 0; k < 3; k++) {
            x.keep(k);
        }
        countsAre(x, 5, 8, 0, 0, 5, 8, 6, 4, 3);
        for (int i = 0; i < 35; i++) {
            due.holds("STITCH " + i, (i % 2 == 0 ? x.unpick(4) : x.sew(4, 1)) >= 0);
        }
        for (int y = 0; y < 4; y++) {
            x.unpick(y);
        }
        countsAre(x, 5, 8, 39, 5, 0, 8, 6, 4, 3);
        x.sew(0, 1);
        countsAre(x, 5, 8, 40, 4, 1, 8, 6, 4, 3);
    }

    private static void countsAre(SewnAhead x, int... want) {
        for (int what = 0; what <= 8; what++) {
            due.is("count(" + what + ")", x.count(what), want[what]);
        }
    }

    private static void countEach() {
        due.sentence("39 count: 4 YEARS in which something HAPPENS, SEWN or not");
        due.is("SEWN, by a LAW, nothing", Due.cloth("y0-- l01").count(4), 2);
        SewnAhead x = Due.cloth("y00 g01");
        x.unpick(0);
        due.is("in a HOLE", x.count(4), 2);
        due.is("in none", Due.cloth("y-- l01").count(4), 0);
        due.sentence("39 count: 3 HOLES");
        due.is("one, though something HAPPENS there", x.count(3), 1);
        x.sew(0, 1);
        due.is("none, DARNED", x.count(3), 0);
        due.sentence("39 count: 5 BARS (KNOTS, too)");
        due.is("of each KIND one", Due.cloth("y01 l00 b00 g00 e00 k00 s00").count(5), 2);
        due.is("none", Due.cloth("y01 l00 g00 e00 s00").count(5), 0);
    }

    private static void finding() {
        due.sentence("40 finding: The latest FINDING (0 before any)");
        SewnAhead x = new SewnAhead();
        due.is("finding()", x.finding(), 0);
        x.row(6, 0);
        x.row(0, 41);
        x.keep(0);
        due.is("finding(), BAD and STATE are none", x.finding(), 0);
        x.at(0, 0);
        due.is("finding(), NOTHING", x.finding(), 1);
        x.row(0, 0);
        due.is("finding(), behind what was not refused", x.finding(), 1);
        x.at(0, 0);
        due.is("finding(), BEYOND", x.finding(), 2);
        x.mean(0);
        due.is("finding(), NOUGHT", x.finding(), 4);
        x.row(0, -1);
        due.is("finding(), SIZE", x.finding(), 5);
        Due.write(x, 0, "y01 l01");
        x.cloth(0);
        due.is("finding(), behind a CLOTH anew", x.finding(), 5);
        x.mark(0, 1);
        due.is("finding(), UNLIKE", x.finding(), 3);
        x.at(9, 9);
        x.undo(9);
        due.is("finding(), behind BAD", x.finding(), 3);
    }

    private static void findings() {
        due.sentence("41 findings: How often a FINDING (1 .. 5) was answered");
        SewnAhead x = Due.cloth("y01 l01");
        x.row(0, 0);
        for (int n = 1; n <= 12; n++) {
            x.at(1, 0);
            due.is("findings(1)", x.findings(1), n);
            x.at(0, 0);
            due.is("findings(2)", x.findings(2), n);
            x.mark(0, 1);
            due.is("findings(3)", x.findings(3), n);
            x.mean(0);
            due.is("findings(4)", x.findings(4), n);
            x.text(0, -1);
            due.is("findings(5)", x.findings(5), n);
        }
        x.cloth(0);
        x.finding();
        for (int f = 1; f <= 5; f++) {
            due.is("findings(" + f + "), behind a CLOTH anew", x.findings(f), 12);
        }
        due.sentence("41 findings: BAD");
        for (int f : new int[] {0, -1, 6, 7, NONE, MAX, MIN}) {
            due.bad("findings(" + f + ")", Due::rich, z -> z.findings(f));
            due.bad("findings(" + f + "), a new object", SewnAhead::new, z -> z.findings(f));
        }
    }

    private static void digest() {
        due.sentence("42 digest: of each YEAR year() 0 to 2; of each LAW law() 0 to 3");
        SewnAhead x = Due.cloth("y4- b43 l43");
        x.text(0, 0);
        due.is("digest()", x.digest(), Due.fold(2, 2, 0, 0, 2, 1, 0, 1, 0,
                1, 4, 4, 0, NONE, 3,
                1, 4, 3, 1, 0, 4, 3, 0,
                -1, -1, -1, -1, -1, -1, -1, -1, -1, 0, -1, -1, -1));
        due.sentence("42 digest: of each kept CLOTH how many STITCHES (-1: missing)");
        x.keep(2);
        x.unpick(0);
        x.keep(0);
        due.is("digest()", x.digest(), Due.fold(2, 2, 1, 1, 0, 1, 0, 1, 2,
                2, 4, NONE, 0, NONE, NONE,
                1, 4, 3, 0, 0, 4, 3, 0,
                1, -1, 0, -1, -1, -1, -1, -1, -1, 0, -1, -1, -1));
        due.sentence("42 digest: of each ROW its size (-1: missing) and places, of each TEXT likewise");
        SewnAhead z = new SewnAhead();
        Due.fill(z, 0, MIN, MAX);
        z.row(2, 0);
        Due.fill(z, 5, -1);
        Due.write(z, 3, "" + (char) 127 + (char) 128);
        due.is("digest()", z.digest(), Due.fold(0, 0, 0, 0, 0, 0, 3, 1, 0,
                -1, -1, -1,
                2, MIN, MAX, -1, 0, -1, -1, 1, -1,
                -1, -1, -1, 2, 127, -128));
        due.sentence("42 digest: h = 31 h + v, a long that wraps around");
        z.row(3, 40);
        z.row(4, 40);
        int[] folded = new int[9 + 3 + 6 + 4 + 2 + 40 + 40 + 1 + 2];
        System.arraycopy(new int[] {0, 0, 0, 0, 0, 0, 5, 1, 0, -1, -1, -1, 2, MIN, MAX, -1, 0, 40}, 0, folded, 0, 18);
        folded[18 + 40] = 40;
        System.arraycopy(new int[] {1, -1, -1, -1, -1, 2, 127, -128}, 0, folded, 18 + 40 + 1 + 40, 8);
        due.is("digest()", z.digest(), Due.fold(folded));
    }

    private static void digestOfNothing() {
        due.sentence("42 digest: it changes nothing");
        SewnAhead x = Due.rich();
        long first = x.digest();
        for (int i = 0; i < 5; i++) {
            due.is("digest(), again", x.digest(), first);
        }
        due.is("asked()", x.asked(), 9);
        due.fraction("digest()", x, 1, 6);
        due.is("finding()", x.finding(), 5);
        due.sentence("42 digest: asked(), upper(), lower(), FINDINGS are no part of it");
        x.at(0, 0);
        x.odds(4, 4);
        x.at(5, 0);
        due.is("digest()", x.digest(), first);
    }
}
