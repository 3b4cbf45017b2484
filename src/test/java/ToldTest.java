/** Promises 36 to 42: asked, upper, lower, count, finding, findings, digest. */
public final class ToldTest {
    private static final Due due = new Due("ToldTest");
    private static final int BAD = SewnAhead.BAD, NONE = SewnAhead.NONE;
    private static final int MAX = Integer.MAX_VALUE, MIN = Integer.MIN_VALUE;

    public static void main(String[] args) {
        asked();
        untold();
        fractions();
        count();
        findings();
        digest();
        constants();
        due.end();
    }

    /** Each call that tells by asked(), with a number unlike the one before. */
    private static void asked() {
        SewnAhead x = Due.cloth("y0-2- l01 b12 k02");
        due.is("asked(), nothing told yet", x.asked(), 0);
        x.row(0, 2);
        x.lay(0, 0, 41);
        x.lay(0, 0, 51);
        due.is("lay", x.asked(), 41);
        x.at(0, 0);
        due.is("at", x.asked(), 51);
        x.mean(0);
        due.is("mean", x.asked(), 25);
        x.year(2, 1);
        due.is("year", x.asked(), 2);
        x.law(1, 0);
        due.is("law", x.asked(), 1);
        x.happens(2);
        due.is("happens", x.asked(), 4);
        x.broken();
        due.is("broken", x.asked(), 0);
        Due.fill(x, 1, 6, 6, 5, 6);
        x.judge(1);
        due.is("judge", x.asked(), 3);
        Due.fill(x, 1, 0, 1, NONE, NONE);
        x.forged(1);
        due.is("forged", x.asked(), 2);
    }

    /** Calls that tell otherwise, and those that are refused, leave asked() as it is. */
    private static void untold() {
        SewnAhead x = Due.cloth("y0-2- l01 b12 k02");
        Due.fill(x, 0, 0, 0, 77);
        x.at(0, 2);
        x.row(1, 4);
        x.copy(0, 0, 1, 0, 2);
        x.tear(1);
        Due.write(x, 1, "y-- k22");
        x.fault(1);
        x.mark(1, 1);
        x.end(0, 3);
        x.sew(1, 1);
        x.unpick(0);
        x.can(3);
        x.safe(0);
        x.least(4, 3, 1);
        x.ways(4, 3, 3);
        x.avert(4, 1);
        Due.write(x, 3, "y0-2- l01 b12 k02");
        x.needed();
        x.odds(4, 3);
        x.lots(3, 3);
        x.keep(0);
        x.on(0);
        x.undo(0);
        x.by(1);
        for (int what = 0; what <= 8; what++) {
            x.count(what);
        }
        x.digest();
        x.cloth(1);
        due.is("calls that tell otherwise", x.asked(), 77);
        x.lay(0, 9, 1);
        x.at(5, 0);
        x.mean(9);
        x.year(9, 0);
        x.law(0, 9);
        x.happens(9);
        x.judge(0);
        x.forged(0);
        due.is("calls that are refused", x.asked(), 77);
    }

    private static void fractions() {
        SewnAhead x = Due.cloth("y-- l01");
        due.fraction("nothing told yet", x, 0, 1);
        x.odds(1, 1);
        due.fraction("odds", x, 7, 36);
        x.least(1, 1, 0);
        x.avert(1, 0);
        x.odds(5, 1);
        x.ways(0, 0, 6);
        due.fraction("others, and refused", x, 7, 36);
        x.ways(1, 1, 5);
        due.fraction("ways", x, 7, 1);
        x.ways(1, 1, 0);
        due.fraction("ways, none", x, 0, 1);
        x.sew(0, 0);
        x.odds(1, 1);
        due.fraction("odds in lowest terms", x, 1, 3);
        x.odds(4, 0);
        due.fraction("odds, none", x, 0, 1);
    }

    private static void counts(SewnAhead x, int... want) {
        for (int what = 0; what <= 8; what++) {
            due.is("count(" + what + ")", x.count(what), want[what]);
        }
    }

    private static void count() {
        SewnAhead x = Due.cloth("y0-2-4 l01 b12 g23 e14 k33 s24 b44");
        counts(x, 5, 7, 0, 0, 5, 3, 0, 1, 0);
        x.unpick(0);
        x.unpick(2);
        x.sew(3, 1);
        x.row(0, 0);
        x.row(5, 40);
        x.text(3, 0);
        x.keep(1);
        counts(x, 5, 7, 3, 2, 3, 3, 2, 2, 1);
        x.tear(0);
        x.undo(1);
        x.keep(2);
        counts(x, 5, 7, 1, 1, 3, 3, 1, 2, 2);
        due.happening("count", x, "--244");
        for (int what : new int[] {-1, 9, MAX, MIN}) {
            due.refuses("count(" + what + ")", x, BAD, () -> x.count(what));
        }
    }

    private static void findings() {
        SewnAhead x = new SewnAhead();
        due.is("finding() before any", x.finding(), 0);
        int[] want = new int[6];
        for (int f = 1; f <= 5; f++) {
            for (int n = 0; n < f; n++) {
                provoke(x, f);
                want[f]++;
                due.is("finding()", x.finding(), f);
            }
            x.at(9, 9);
            x.text(2, 0);
            x.cloth(2);
            due.is("finding() behind BAD, STATE", x.finding(), f);
        }
        for (int f = 1; f <= 5; f++) {
            due.is("findings(" + f + ")", x.findings(f), want[f]);
        }
        for (int f : new int[] {-1, 0, 6, MAX, MIN}) {
            due.refuses("findings(" + f + ")", x, BAD, () -> x.findings(f));
        }
        SewnAhead z = Due.cloth("y01");
        z.at(0, 0);
        z.cloth(0);
        due.is("a CLOTH anew leaves finding()", z.finding(), 1);
        due.is("a CLOTH anew leaves findings()", z.findings(1), 1);
    }

    private static void provoke(SewnAhead x, int f) {
        x.row(0, 0);
        switch (f) {
            case 1:
                x.at(1, 0);
                break;
            case 2:
                x.at(0, 0);
                break;
            case 3:
                Due.write(x, 3, "y01 l00");
                x.cloth(3);
                x.mark(0, 1);
                break;
            case 4:
                x.mean(0);
                break;
            default:
                x.row(0, -1);
                break;
        }
    }

    private static void digest() {
        SewnAhead x = Due.cloth("y0-2 l01 b12 k00");
        x.unpick(0);
        x.keep(1);
        x.sew(0, 0);
        Due.fill(x, 0, 7, -9);
        x.row(3, 0);
        x.row(5, 1);
        x.text(2, 3);
        x.put(2, 1, 255);
        due.is("digest()", x.digest(), Due.fold(
                3, 3, 2, 0, 3, 2, 3, 2, 1,
                1, 0, 0, 0, NONE, 1, 1, 2, 2,
                0, 0, 1, 0, 1, 1, 2, 1, 4, 0, 0, 0,
                -1, 1, -1,
                2, 7, -9, -1, -1, 0, -1, 1, 0,
                16, 121, 48, 45, 50, 32, 108, 48, 49, 32, 98, 49, 50, 32, 107, 48, 48,
                -1, 3, 32, -1, 32, -1));
        due.is("digest() again", x.digest(), x.digest());
        int before = x.asked();
        x.digest();
        due.is("digest() leaves asked()", x.asked(), before);
    }

    private static void constants() {
        due.is("BAD", SewnAhead.BAD, -1);
        due.is("FULL", SewnAhead.FULL, -2);
        due.is("FINDING", SewnAhead.FINDING, -3);
        due.is("STATE", SewnAhead.STATE, -4);
        due.is("SPENT", SewnAhead.SPENT, -6);
        due.is("NONE", SewnAhead.NONE, -9);
    }
}
