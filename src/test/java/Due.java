import java.util.ArrayList;
import java.util.List;
import java.util.function.IntSupplier;
import java.util.function.Supplier;
import java.util.function.ToIntFunction;

/** Counts the answers that are as due, prints those that are not, and makes cloths and rows for the tests. */
final class Due {
    private static final int NONE = SewnAhead.NONE;

    private final String name;
    private int right = 0;
    private int wrong = 0;
    private int sentences = 0;
    private int checked = 0;
    private String sentence = "";

    Due(String name) {
        this.name = name;
    }

    void is(String call, long got, long want) {
        checked++;
        if (got == want) {
            right++;
        } else {
            wrong++;
            System.out.println(name + ": " + sentence + call + " answered " + got + ", due is " + want);
        }
    }

    void holds(String what, boolean is) {
        is(what, is ? 1 : 0, 1);
    }

    /** Opens a sentence of the document, told with what fails by it; one without a check is a fault of the test. */
    void sentence(String words) {
        closeSentence();
        sentence = "'" + words + "': ";
        sentences++;
        checked = 0;
    }

    private void closeSentence() {
        if (!sentence.isEmpty() && checked == 0) {
            wrong++;
            System.out.println(name + ": " + sentence + "without a check");
        }
    }

    /** A call on a new object that is refused so, behind which all is as if it had never been called. */
    void refused(String call, int refusal, Supplier<SewnAhead> made, ToIntFunction<SewnAhead> call0) {
        SewnAhead x = made.get();
        SewnAhead untouched = made.get();
        is(call, call0.applyAsInt(x), refusal);
        same(call + ", FINDINGS", findingsOf(x), findingsOf(untouched));
        same(call + ", what it may not change", look(x), look(untouched));
    }

    void bad(String call, Supplier<SewnAhead> made, ToIntFunction<SewnAhead> call0) {
        refused(call, SewnAhead.BAD, made, call0);
    }

    void state(String call, Supplier<SewnAhead> made, ToIntFunction<SewnAhead> call0) {
        refused(call, SewnAhead.STATE, made, call0);
    }

    void full(String call, Supplier<SewnAhead> made, ToIntFunction<SewnAhead> call0) {
        refused(call, SewnAhead.FULL, made, call0);
    }

    /** A call on a new object that is refused with a FINDING, counted once, and changes nothing else. */
    void found(String call, int f, Supplier<SewnAhead> made, ToIntFunction<SewnAhead> call0) {
        SewnAhead x = made.get();
        SewnAhead untouched = made.get();
        is(call, call0.applyAsInt(x), SewnAhead.FINDING);
        List<Long> want = findingsOf(untouched);
        want.set(0, (long) f);
        want.set(f, want.get(f) + 1);
        same(call + ", FINDINGS", findingsOf(x), want);
        same(call + ", what it may not change", look(x), look(untouched));
    }

    private void same(String call, List<Long> got, List<Long> want) {
        holds(call + ": " + got + ", due is " + want + ";", got.equals(want));
    }

    private static List<Long> findingsOf(SewnAhead x) {
        List<Long> all = new ArrayList<>();
        all.add((long) x.finding());
        for (int f = 1; f <= 5; f++) {
            all.add((long) x.findings(f));
        }
        return all;
    }

    /** All that can be seen of an object but FINDINGS, with what is kept; it is used up by being looked at. */
    private static List<Long> look(SewnAhead x) {
        List<Long> all = new ArrayList<>(List.of((long) x.asked(), x.upper(), x.lower()));
        lookAtStitches(x, all);
        for (int k = 0; k < 3; k++) {
            int stitches = x.on(k);
            all.add((long) stitches);
            if (stitches >= 0) {
                lookAtStitches(x, all);
            }
        }
        return all;
    }

    private static void lookAtStitches(SewnAhead x, List<Long> all) {
        all.add(x.digest());
        for (int n = x.count(2) - 1; n >= 0; n--) {
            x.undo(n);
            all.add(x.digest());
        }
    }

    /** A call that is refused with a FINDING: which one, and that it is counted once. */
    void finds(String call, SewnAhead x, int f, IntSupplier call0) {
        int before = x.findings(f);
        is(call, call0.getAsInt(), SewnAhead.FINDING);
        is(call + ", then finding()", x.finding(), f);
        is(call + ", then findings(" + f + ")", x.findings(f), before + 1);
    }

    /** A call that is refused so, and leaves asked(), upper(), lower(), finding(), digest() as they were. */
    void refuses(String call, SewnAhead x, int refusal, IntSupplier call0) {
        long[] before = {x.asked(), x.upper(), x.lower(), x.finding(), x.digest()};
        is(call, call0.getAsInt(), refusal);
        long[] after = {x.asked(), x.upper(), x.lower(), x.finding(), x.digest()};
        for (int i = 0; i < before.length; i++) {
            is(call + ", then what it may not change (" + i + ")", after[i], before[i]);
        }
    }

    /** A call that answers 1 and tells a number by asked(). */
    void tells(String call, SewnAhead x, int want, IntSupplier call0) {
        is(call, call0.getAsInt(), 1);
        is(call + ", then asked()", x.asked(), want);
    }

    /** What HAPPENS in each YEAR: a figure, or - for nothing. */
    void happening(String of, SewnAhead x, String want) {
        StringBuilder got = new StringBuilder();
        for (int y = 0; y < x.count(0); y++) {
            x.year(y, 2);
            got.append(x.asked() == SewnAhead.NONE ? "-" : String.valueOf(x.asked()));
        }
        is(of + " happens " + got + ", due " + want, got.toString().equals(want) ? 1 : 0, 1);
    }

    /** The places of a ROW. */
    void row(String of, SewnAhead x, int r, int... want) {
        for (int i = 0; i < want.length; i++) {
            is(of + ", at(" + r + ", " + i + ")", x.at(r, i), 1);
            is(of + ", at(" + r + ", " + i + "), then asked()", x.asked(), want[i]);
        }
        is(of + ", at(" + r + ", " + want.length + ")", x.at(r, want.length), SewnAhead.FINDING);
    }

    void fraction(String of, SewnAhead x, long upper, long lower) {
        is(of + ", upper()", x.upper(), upper);
        is(of + ", lower()", x.lower(), lower);
    }

    void end() {
        closeSentence();
        System.out.println(name + ": " + right + " passed, " + wrong + " failed"
                + (sentences == 0 ? "" : ", " + sentences + " sentences"));
        if (wrong != 0) {
            System.exit(1);
        }
    }

    static void write(SewnAhead x, int t, String signs) {
        x.text(t, signs.length());
        for (int i = 0; i < signs.length(); i++) {
            x.put(t, i, signs.charAt(i));
        }
    }

    /** A new object with a CLOTH by a TEXT. */
    static SewnAhead cloth(String signs) {
        SewnAhead x = new SewnAhead();
        write(x, 0, signs);
        x.cloth(0);
        return x;
    }

    /** An object with something in each place that a call could change wrongly. */
    static SewnAhead rich() {
        SewnAhead x = cloth("y0-2-4 l01 b12 g23 e14 k33 s24 b44");
        x.end(6, 3);
        x.unpick(0);
        x.keep(0);
        x.sew(0, 3);
        x.sew(1, 1);
        x.keep(2);
        x.unpick(2);
        fill(x, 0, 7, -8, 9);
        x.row(1, 0);
        fill(x, 2, 3, 1, NONE, NONE, 4);
        x.row(3, 40);
        x.lay(3, 39, Integer.MIN_VALUE);
        x.text(1, 60);
        x.put(1, 59, 200);
        x.text(2, 0);
        x.odds(1, 3);
        x.mean(1);
        x.at(5, 0);
        x.lay(0, 3, 1);
        x.row(0, -1);
        x.at(0, 2);
        return x;
    }

    /** With 40 STITCHES, the last of which left YEAR 1 a HOLE. */
    static SewnAhead full(String signs) {
        SewnAhead x = cloth(signs);
        for (int i = 0; i < 20; i++) {
            x.sew(1, 3);
            x.unpick(1);
        }
        return x;
    }

    static void fill(SewnAhead x, int r, int... values) {
        x.row(r, values.length);
        for (int i = 0; i < values.length; i++) {
            x.lay(r, i, values[i]);
        }
    }

    /** As digest() folds numbers. */
    static long fold(int... values) {
        long h = 17;
        for (int v : values) {
            h = 31 * h + v;
        }
        return h;
    }
}
