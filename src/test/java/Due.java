/** Counts the answers that are as due, prints those that are not, and makes cloths and rows for the tests. */
final class Due {
    private final String name;
    private int right = 0;
    private int wrong = 0;

    Due(String name) {
        this.name = name;
    }

    void is(String call, long got, long want) {
        if (got == want) {
            right++;
        } else {
            wrong++;
            System.out.println(name + ": " + call + " answered " + got + ", due is " + want);
        }
    }

    /** A call that is refused with a FINDING: which one, and that it is counted once. */
    void finds(String call, SewnAhead x, int f, java.util.function.IntSupplier call0) {
        int before = x.findings(f);
        is(call, call0.getAsInt(), SewnAhead.FINDING);
        is(call + ", then finding()", x.finding(), f);
        is(call + ", then findings(" + f + ")", x.findings(f), before + 1);
    }

    /** A call that is refused so, and leaves asked(), upper(), lower(), finding(), digest() as they were. */
    void refuses(String call, SewnAhead x, int refusal, java.util.function.IntSupplier call0) {
        long[] before = {x.asked(), x.upper(), x.lower(), x.finding(), x.digest()};
        is(call, call0.getAsInt(), refusal);
        long[] after = {x.asked(), x.upper(), x.lower(), x.finding(), x.digest()};
        for (int i = 0; i < before.length; i++) {
            is(call + ", then what it may not change (" + i + ")", after[i], before[i]);
        }
    }

    /** A call that answers 1 and tells a number by asked(). */
    void tells(String call, SewnAhead x, int want, java.util.function.IntSupplier call0) {
        is(call, call0.getAsInt(), 1);
        is(call + ", then asked()", x.asked(), want);
    }

    /** What HAPPENS in each YEAR: a figure, or - for nothing. */
    void happening(String of, SewnAhead x, String want) {
        StringBuilder got = new StringBuilder();
        for (int y = 0; y < x.count(0); y++) {
            x.year(y, 2);
            got.append(x.asked() == SewnAhead.NONE ? "-" : String.valueOf(x.asked()));
        }
        is(of + " happens " + got + ", due " + want, got.toString().equals(want) ? 1 : 0, 1);
    }

    /** The places of a ROW. */
    void row(String of, SewnAhead x, int r, int... want) {
        for (int i = 0; i < want.length; i++) {
            is(of + ", at(" + r + ", " + i + ")", x.at(r, i), 1);
            is(of + ", at(" + r + ", " + i + "), then asked()", x.asked(), want[i]);
        }
        is(of + ", at(" + r + ", " + want.length + ")", x.at(r, want.length), SewnAhead.FINDING);
    }

    void fraction(String of, SewnAhead x, long upper, long lower) {
        is(of + ", upper()", x.upper(), upper);
        is(of + ", lower()", x.lower(), lower);
    }

    void end() {
        System.out.println(name + ": " + right + " passed, " + wrong + " failed");
        if (wrong != 0) {
            System.exit(1);
        }
    }

    static void write(SewnAhead x, int t, String signs) {
        x.text(t, signs.length());
        for (int i = 0; i < signs.length(); i++) {
            x.put(t, i, signs.charAt(i));
        }
    }

    /** A new object with a CLOTH by a TEXT. */
    static SewnAhead cloth(String signs) {
        SewnAhead x = new SewnAhead();
        write(x, 0, signs);
        x.cloth(0);
        return x;
    }

    static void fill(SewnAhead x, int r, int... values) {
        x.row(r, values.length);
        for (int i = 0; i < values.length; i++) {
            x.lay(r, i, values[i]);
        }
    }

    /** As digest() folds numbers. */
    static long fold(int... values) {
        long h = 17;
        for (int v : values) {
            h = 31 * h + v;
        }
        return h;
    }
}
