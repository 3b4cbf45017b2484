import java.util.function.Supplier;

/** The edges that the document names in its Terms for all calls alike, a sentence each. */
public final class EdgesTermsTest {
    private static final Due due = new Due("EdgesTermsTest");
    private static final int BAD = SewnAhead.BAD, NONE = SewnAhead.NONE;
    private static final int MAX = Integer.MAX_VALUE, MIN = Integer.MIN_VALUE;
    private static final int NOTHING = 1, BEYOND = 2, UNLIKE = 3, NOUGHT = 4, SIZE = 5;
    private static final Supplier<SewnAhead> NEW = SewnAhead::new, RICH = Due::rich;

    public static void main(String[] args) {
        numbers();
        calls();
        noNumberThrows();
        badFirst();
        badAheadOfFindings();
        stateAheadOfFindings();
        fullLast();
        nothingFound();
        otherFindings();
        fractions();
        bitsOfYears();
        bitsOfScenesAndLaws();
        due.end();
    }

    private static void numbers() {
        due.sentence("BAD -1, FULL -2, STATE -4, SPENT -6, FINDING -3, NONE -9");
        due.is("BAD", SewnAhead.BAD, -1);
        due.is("FULL", SewnAhead.FULL, -2);
        due.is("FINDING", SewnAhead.FINDING, -3);
        due.is("STATE", SewnAhead.STATE, -4);
        due.is("SPENT", SewnAhead.SPENT, -6);
        due.is("NONE", SewnAhead.NONE, -9);
    }

    private static void calls() {
        due.sentence("An object is used for at most 512 calls after it has been made");
        SewnAhead x = new SewnAhead();
        x.row(0, 40);
        for (int call = 2; call <= 510; call++) {
            x.lay(0, call % 40, call);
        }
        due.is("lay, the 511th call", x.lay(0, 0, 511), 1);
        // the latest of those calls that laid something in place 0 was the 480th
        due.is("asked(), the 512th call", x.asked(), 480);
        SewnAhead refused = new SewnAhead();
        for (int call = 0; call < 511; call++) {
            refused.at(0, 0);
        }
        due.is("findings(1), the 512th call", refused.findings(1), 511);
    }

    /** Each call with numbers that are none, and with those that are, in whatever state; also behind the 512th call. */
    private static void noNumberThrows() {
        due.sentence("a number that is none: no call throws for it, in any state");
        int[] some = {0, 1, 4, 5, 6, 40, 41, 60, -1, NONE, MAX, MIN};
        for (Supplier<SewnAhead> made : java.util.List.<Supplier<SewnAhead>>of(NEW, RICH, () -> Due.full("y0-2 k01"))) {
            for (int a : some) {
                SewnAhead x = made.get();
                for (int b : some) {
                    callAll(x, a, b);
                }
                due.holds("count(0)", x.count(0) >= 0);
            }
        }
    }

    private static void callAll(SewnAhead x, int a, int b) {
        x.year(a, b);
        x.law(a, b);
        x.mark(a, b);
        x.happens(a);
        x.by(a);
        x.broken();
        x.can(a);
        x.safe(a);
        x.least(a, b, a);
        x.ways(a, b, a);
        x.avert(a, b);
        x.judge(a);
        x.was(a, b);
        x.kinds(a, b);
        x.needed();
        x.forged(a);
        x.odds(a, b);
        x.lots(a, b);
        x.fault(a);
        x.keep(a);
        x.on(a);
        x.sew(a, b);
        x.unpick(a);
        x.end(a, b);
        x.undo(a);
        x.count(a);
        x.findings(a);
        x.lay(a, b, a);
        x.at(a, b);
        x.mean(a);
        x.copy(a, b, b, a, a);
        x.put(a, b, a);
        x.tear(a);
        x.row(a, b);
        x.text(a, b);
        x.cloth(a);
        x.digest();
    }

    private static void badFirst() {
        due.sentence("Refused is, the first of these that fits: BAD, ahead of FULL and STATE");
        due.bad("end(7, 0), STITCHES", RICH, x -> x.end(7, 0));
        due.bad("end(0, 5), STITCHES", RICH, x -> x.end(0, 5));
        due.bad("sew(1, 5), SEWN", RICH, x -> x.sew(1, 5));
        due.bad("sew(5, 0), FULL", () -> Due.full("y0-"), x -> x.sew(5, 0));
        due.bad("unpick(5), FULL", () -> Due.full("y0-"), x -> x.unpick(5));
        due.bad("keep(3), no YEARS", NEW, x -> x.keep(3));
        due.bad("avert(5, 0), no YEARS", NEW, x -> x.avert(5, 0));
        due.bad("avert(0, 6), no YEARS", NEW, x -> x.avert(0, 6));
        due.bad("judge(6), no YEARS", NEW, x -> x.judge(6));
        due.bad("was(1, 6), no HOLE", RICH, x -> x.was(1, 6));
        due.bad("forged(6), no YEARS", NEW, x -> x.forged(6));
        due.bad("lots(0, 1), no YEARS", NEW, x -> x.lots(0, 1));
        due.bad("lots(1, 0), no YEARS", NEW, x -> x.lots(1, 0));
        due.bad("lots(11, 1), FULL", () -> Due.full("y0-"), x -> x.lots(11, 1));
    }

    private static void badAheadOfFindings() {
        due.sentence("Refused is, the first of these that fits: BAD, ahead of a FINDING");
        due.bad("row(6, -1)", RICH, x -> x.row(6, -1));
        due.bad("row(-1, -1)", RICH, x -> x.row(-1, -1));
        due.bad("lay(6, -1, 0)", RICH, x -> x.lay(6, -1, 0));
        due.bad("at(-1, 99)", RICH, x -> x.at(-1, 99));
        due.bad("copy(6, 0, 5, 0, -1)", RICH, x -> x.copy(6, 0, 5, 0, -1));
        due.bad("copy(5, 0, 6, 0, 1)", RICH, x -> x.copy(5, 0, 6, 0, 1));
        due.bad("text(4, -1)", RICH, x -> x.text(4, -1));
        due.bad("put(4, -1, 0)", RICH, x -> x.put(4, -1, 0));
        due.bad("mark(0, 0), a LAW of another KIND", RICH, x -> x.mark(0, 0));
        due.bad("was(5, 5), a missing ROW", RICH, x -> x.was(5, 5));
        due.bad("kinds(7, 5), a missing ROW", RICH, x -> x.kinds(7, 5));
        due.bad("kinds(7, 0), a SIZE", RICH, x -> x.kinds(7, 0));
    }

    private static void stateAheadOfFindings() {
        due.sentence("Refused is, the first of these that fits: STATE, ahead of a FINDING");
        due.state("judge(0), no YEARS, a missing ROW", NEW, x -> x.judge(0));
        due.state("forged(0), no YEARS, a missing ROW", NEW, x -> x.forged(0));
        due.state("was(1, 5), no HOLE, a missing ROW", RICH, x -> x.was(1, 5));
        due.state("was(1, 0), no HOLE, a SIZE", RICH, x -> x.was(1, 0));
        due.sentence("unless a call says so otherwise: cloth(), STATE behind NOTHING");
        due.found("cloth(3), missing", NOTHING, RICH, x -> x.cloth(3));
        due.state("cloth(2), a FAULT", RICH, x -> x.cloth(2));
    }

    private static void fullLast() {
        due.sentence("unless a call says so otherwise: sew(), unpick(), lots(), FULL last");
        Supplier<SewnAhead> full = () -> Due.full("y0--");
        due.state("sew(0, 1), SEWN", full, x -> x.sew(0, 1));
        due.full("sew(1, 1), a HOLE", full, x -> x.sew(1, 1));
        due.full("sew(2, 1), PLAIN", full, x -> x.sew(2, 1));
        due.full("unpick(0), SEWN", full, x -> x.unpick(0));
        due.state("unpick(1), a HOLE", full, x -> x.unpick(1));
        due.state("unpick(2), PLAIN", full, x -> x.unpick(2));
        due.full("lots(1, 1)", full, x -> x.lots(1, 1));
    }

    private static void nothingFound() {
        due.sentence("1 NOTHING (a ROW, a TEXT, a kept CLOTH that is missing)");
        due.found("lay", NOTHING, RICH, x -> x.lay(5, 0, 1));
        due.found("at", NOTHING, RICH, x -> x.at(5, 0));
        due.found("tear", NOTHING, RICH, x -> x.tear(5));
        due.found("copy, from", NOTHING, RICH, x -> x.copy(5, 0, 0, 0, 1));
        due.found("copy, to", NOTHING, RICH, x -> x.copy(0, 0, 5, 0, 1));
        due.found("mean", NOTHING, RICH, x -> x.mean(5));
        due.found("judge", NOTHING, RICH, x -> x.judge(5));
        due.found("was", NOTHING, RICH, x -> x.was(2, 5));
        due.found("kinds", NOTHING, RICH, x -> x.kinds(0, 5));
        due.found("forged", NOTHING, RICH, x -> x.forged(5));
        due.found("put", NOTHING, RICH, x -> x.put(3, 0, 1));
        due.found("fault", NOTHING, RICH, x -> x.fault(3));
        due.found("cloth", NOTHING, RICH, x -> x.cloth(3));
        due.found("on", NOTHING, RICH, x -> x.on(1));
    }

    private static SewnAhead unlike() {
        SewnAhead x = Due.rich();
        Due.fill(x, 4, 6, 6, 6, 6, 7);
        return x;
    }

    private static void otherFindings() {
        due.sentence("2 BEYOND (a place that there is not)");
        due.found("lay", BEYOND, RICH, x -> x.lay(0, 3, 1));
        due.found("at", BEYOND, RICH, x -> x.at(0, 3));
        due.found("copy", BEYOND, RICH, x -> x.copy(0, 0, 3, 38, 3));
        due.found("put", BEYOND, RICH, x -> x.put(1, 60, 1));
        due.sentence("3 UNLIKE (a LAW of another KIND; a number that is none)");
        due.found("mark", UNLIKE, RICH, x -> x.mark(0, 1));
        due.found("judge", UNLIKE, EdgesTermsTest::unlike, x -> x.judge(4));
        due.found("was", UNLIKE, EdgesTermsTest::unlike, x -> x.was(2, 4));
        due.found("kinds", UNLIKE, EdgesTermsTest::unlike, x -> x.kinds(0, 4));
        due.found("forged", UNLIKE, EdgesTermsTest::unlike, x -> x.forged(4));
        due.sentence("4 NOUGHT (shared among none)");
        due.found("mean", NOUGHT, RICH, x -> x.mean(1));
        due.sentence("5 SIZE (fewer than none; not as many as due)");
        due.found("row", SIZE, RICH, x -> x.row(0, -1));
        due.found("text", SIZE, RICH, x -> x.text(0, -1));
        due.found("copy", SIZE, RICH, x -> x.copy(0, 0, 0, 0, -1));
        due.found("judge", SIZE, RICH, x -> x.judge(0));
        due.found("was", SIZE, RICH, x -> x.was(2, 0));
        due.found("kinds", SIZE, RICH, x -> x.kinds(0, 0));
        due.found("forged", SIZE, RICH, x -> x.forged(0));
    }

    private static void told(String cloth, int scene, int y, long upper, long lower) {
        SewnAhead x = Due.cloth(cloth);
        due.is("odds(" + scene + ", " + y + ") of " + cloth, x.odds(scene, y), 1);
        due.fraction("odds(" + scene + ", " + y + ") of " + cloth, x, upper, lower);
    }

    private static void fractions() {
        due.sentence("told by upper(), lower(), in lowest terms, the lower number above 0 (0 by 1)");
        told("y--", 0, 0, 1, 6);
        told("y-----", 0, 0, 1, 6);
        told("y0- l01", 1, 1, 1, 3);
        told("y----0", 0, 4, 1, 1);
        told("y----0", 1, 4, 0, 1);
        told("y---- l00", 0, 3, 259, 1296);
        SewnAhead x = Due.cloth("y----- l01");
        due.is("ways(1, 4, 5)", x.ways(1, 4, 5), 1);
        // YEAR 4 SEWN with 1, or PLAIN behind a 0 that is SEWN: 1296 and 216
        due.fraction("ways(1, 4, 5)", x, 1512, 1);
        due.is("ways(1, 4, 0)", x.ways(1, 4, 0), 1);
        due.fraction("ways(1, 4, 0)", x, 0, 1);
    }

    private static void bitsOfYears() {
        due.sentence("Sets of YEARS are told by bits");
        for (int y = 0; y < 5; y++) {
            StringBuilder signs = new StringBuilder("y-----");
            signs.setCharAt(y + 1, '4');
            SewnAhead x = Due.cloth(signs.toString());
            due.is("happens(4)", x.happens(4), 1);
            due.is("happens(4), then asked()", x.asked(), 1 << y);
            Due.fill(x, 0, 6, 6, 6, 6, 6);
            due.is("judge(0)", x.judge(0), 0);
            due.is("judge(0), then asked()", x.asked(), 1 << y);
        }
    }

    private static void bitsOfScenesAndLaws() {
        due.sentence("Sets of SCENES are told by bits");
        for (int s = 0; s < 5; s++) {
            due.is("can(1)", Due.cloth("y" + s + "- b" + s + s).can(1), 31 - (1 << s));
            due.is("safe(0)", Due.cloth("y-- b" + s + s).safe(0), 31 - (1 << s));
            SewnAhead x = Due.cloth("y" + s + "- g" + s + s);
            x.unpick(0);
            Due.fill(x, 0, s, NONE);
            due.is("was(0, 0)", x.was(0, 0), 1 << s);
        }
        due.sentence("Sets of LAWS are told by bits");
        for (int k = 0; k < 8; k++) {
            String before = "l44".repeat(k);
            String behind = "l44".repeat(7 - k);
            due.is("broken()", Due.cloth("y01" + before + "b01" + behind).broken(), 1 << k);
            due.is("needed()", Due.cloth("y0-" + before + "l01" + behind).needed(), 1 << k);
        }
        due.is("BAD is no set", Due.cloth("y01").can(2), BAD);
    }
}
