import java.util.Arrays;

/**
 * The altar cloth that is worked ahead: YEARS with SCENES, PLAIN ones and HOLES, LAWS of six KINDS,
 * STITCHES, and what HAPPENS by them. The capital words are the document's own.
 */
public final class SewnAhead {
    public static final int BAD = -1, FULL = -2, FINDING = -3, STATE = -4, SPENT = -6, NONE = -9;

    private static final int NOTHING = 1, BEYOND = 2, UNLIKE = 3, NOUGHT = 4, SIZE = 5;

    private static final int ROWS = 6, ROW_PLACES = 40, TEXTS = 4, TEXT_PLACES = 60, KEPT = 3;
    private static final int SCENES = 5, LEAST_YEARS = 2, MOST_YEARS = 5, MOST_LAWS = 8, MOST_STITCHES = 40;

    private static final int PLAIN = 0, SEWN = 1, HOLE = 2;

    private static final int LAW = 0, BAR = 1, GAP = 2, ECHO = 3, KNOT = 4, STORM = 5, KINDS = 6;
    private static final char[] LETTERS = {'l', 'b', 'g', 'e', 'k', 's'};
    private static final int[] PARENTS = {NONE, LAW, LAW, LAW, BAR, ECHO};

    /** CHANGES beside the SCENES. */
    private static final int UNPICKED = 5, UNCHANGED = 6;

    /** What may HAPPEN in a YEAR, by bits: the SCENES, and one bit more for nothing. */
    private static final int ALL_SCENES = (1 << SCENES) - 1, NOTHING_BIT = 1 << SCENES;
    private static final int WHATEVER = ALL_SCENES | NOTHING_BIT;

    private static final int BLANK = 32, PUT_MORE = 1000, MOST_LOTS = 10, COUNTS = 9;
    private static final long LOT_FACTOR = 48271, LOT_MODULUS = 2147483647;

    /** Answered by checks inside the class that find nothing to refuse. */
    private static final int GOOD = 0;

    private final Row[] rows = new Row[ROWS];
    private final Row[] texts = new Row[TEXTS];
    private final Cloth cloth = new Cloth();
    private final Cloth aside = new Cloth();
    private final Cloth[] kept = new Cloth[KEPT];
    private final Plans plans = new Plans();
    private final int[] found = new int[SIZE + 1];
    private int latestFound = 0;
    private int told = 0;
    private long upperTold = 0;
    private long lowerTold = 1;

    public SewnAhead() {
        for (int r = 0; r < ROWS; r++) {
            rows[r] = new Row(ROW_PLACES);
        }
        for (int t = 0; t < TEXTS; t++) {
            texts[t] = new Row(TEXT_PLACES);
        }
        for (int k = 0; k < KEPT; k++) {
            kept[k] = new Cloth();
        }
    }

    // ---- 1 rows, texts, cloths

    public int row(int r, int n) {
        if (!isRow(r) || n > ROW_PLACES) {
            return BAD;
        }
        if (n < 0) {
            return refuse(SIZE);
        }
        rows[r].begin(n, 0);
        return n;
    }

    public int lay(int r, int i, int v) {
        if (!isRow(r)) {
            return BAD;
        }
        int refused = refusePlace(rows[r], i);
        if (refused != GOOD) {
            return refused;
        }
        told = rows[r].places[i];
        rows[r].places[i] = v;
        return 1;
    }

    public int at(int r, int i) {
        if (!isRow(r)) {
            return BAD;
        }
        int refused = refusePlace(rows[r], i);
        if (refused != GOOD) {
            return refused;
        }
        told = rows[r].places[i];
        return 1;
    }

    public int tear(int r) {
        if (!isRow(r)) {
            return BAD;
        }
        if (rows[r].isMissing()) {
            return refuse(NOTHING);
        }
        rows[r].remove();
        return 1;
    }

    public int copy(int r, int i, int to, int j, int n) {
        if (!isRow(r) || !isRow(to)) {
            return BAD;
        }
        if (n < 0) {
            return refuse(SIZE);
        }
        if (rows[r].isMissing() || rows[to].isMissing()) {
            return refuse(NOTHING);
        }
        if (!rows[r].hasSpan(i, n) || !rows[to].hasSpan(j, n)) {
            return refuse(BEYOND);
        }
        System.arraycopy(rows[r].places, i, rows[to].places, j, n);
        return 1;
    }

    public int mean(int r) {
        if (!isRow(r)) {
            return BAD;
        }
        Row row = rows[r];
        if (row.isMissing()) {
            return refuse(NOTHING);
        }
        if (row.size == 0) {
            return refuse(NOUGHT);
        }
        long sum = 0;
        for (int i = 0; i < row.size; i++) {
            sum += row.places[i];
        }
        told = (int) (sum / row.size);
        return 1;
    }

    public int text(int t, int n) {
        if (!isText(t) || n > TEXT_PLACES) {
            return BAD;
        }
        if (n < 0) {
            return refuse(SIZE);
        }
        texts[t].begin(n, BLANK);
        return n;
    }

    public int put(int t, int i, int v) {
        if (!isText(t)) {
            return BAD;
        }
        int refused = refusePlace(texts[t], i);
        if (refused != GOOD) {
            return refused;
        }
        int before = texts[t].places[i];
        texts[t].places[i] = (byte) v;
        return before + PUT_MORE;
    }

    public int fault(int t) {
        if (!isText(t)) {
            return BAD;
        }
        if (texts[t].isMissing()) {
            return refuse(NOTHING);
        }
        return Reader.read(texts[t], aside);
    }

    public int cloth(int t) {
        if (!isText(t)) {
            return BAD;
        }
        if (texts[t].isMissing()) {
            return refuse(NOTHING);
        }
        if (Reader.read(texts[t], aside) != NONE) {
            return STATE;
        }
        cloth.take(aside);
        cloth.settleFrom(0);
        for (int k = 0; k < KEPT; k++) {
            kept[k].clear();
        }
        return cloth.years;
    }

    public int year(int y, int what) {
        if (!isYear(y) || what < 0 || what > 2) {
            return BAD;
        }
        told = ofYear(y, what);
        return 1;
    }

    public int law(int k, int what) {
        if (!isLaw(k) || what < 0 || what > 3) {
            return BAD;
        }
        told = ofLaw(k, what);
        return 1;
    }

    public int mark(int k, int kind) {
        if (!isLaw(k) || kind <= LAW || kind >= KINDS) {
            return BAD;
        }
        if (!cloth.isOfKind(k, kind)) {
            return refuse(UNLIKE);
        }
        int causes = cloth.yearsWith(cloth.cause[k]);
        int ends = cloth.yearsWith(cloth.end[k]);
        switch (kind) {
            case BAR:
                return Integer.bitCount(causes | ends);
            case GAP:
                return Integer.bitCount(ends & cloth.yearsThatAre(HOLE));
            case ECHO:
                return Integer.bitCount(causes);
            case KNOT:
                return (causes != 0) != (ends != 0) ? 1 : 0;
            default:
                return Integer.bitCount(ends & cloth.yearsThatAre(PLAIN));
        }
    }

    public int end(int k, int scene) {
        if (!isLaw(k) || !isScene(scene)) {
            return BAD;
        }
        if (cloth.stitches > 0) {
            return STATE;
        }
        int before = cloth.end[k];
        cloth.end[k] = scene;
        cloth.settleFrom(0);
        return before;
    }

    // ---- 2 stitches

    public int sew(int y, int scene) {
        if (!isYear(y) || !isScene(scene)) {
            return BAD;
        }
        return stitched(y, scene);
    }

    public int unpick(int y) {
        if (!isYear(y)) {
            return BAD;
        }
        return stitched(y, UNPICKED);
    }

    public int undo(int n) {
        if (n < 0 || n > cloth.stitches) {
            return BAD;
        }
        int undone = cloth.stitches - n;
        cloth.unstitch(n);
        return undone;
    }

    public int keep(int k) {
        if (!isKeptPlace(k)) {
            return BAD;
        }
        if (cloth.years == 0) {
            return STATE;
        }
        kept[k].take(cloth);
        return cloth.stitches;
    }

    public int on(int k) {
        if (!isKeptPlace(k)) {
            return BAD;
        }
        if (kept[k].years == 0) {
            return refuse(NOTHING);
        }
        cloth.take(kept[k]);
        cloth.settleFrom(0);
        return cloth.stitches;
    }

    // ---- 3 what happens

    public int happens(int scene) {
        if (!isScene(scene)) {
            return BAD;
        }
        told = cloth.yearsWith(scene);
        return Integer.bitCount(told);
    }

    public int by(int y) {
        if (!isYear(y)) {
            return BAD;
        }
        return cloth.maker[y];
    }

    public int broken() {
        int laws = cloth.brokenLaws();
        told = cloth.firstYearOf(laws);
        return laws;
    }

    public int can(int y) {
        if (!isYear(y)) {
            return BAD;
        }
        if (cloth.what[y] == SEWN) {
            return STATE;
        }
        aside.take(cloth);
        int scenes = 0;
        for (int s = 0; s < SCENES; s++) {
            aside.set(y, SEWN, s);
            aside.settleFrom(0);
            if (aside.brokenLaws() == 0) {
                scenes |= 1 << s;
            }
        }
        return scenes;
    }

    public int safe(int y) {
        if (!isYear(y) || y == cloth.years - 1) {
            return BAD;
        }
        aside.take(cloth);
        int scenes = 0;
        for (int s = 0; s < SCENES; s++) {
            aside.set(y, SEWN, s);
            if (isWholeWhateverIsSewn(y + 1)) {
                scenes |= 1 << s;
            }
        }
        return scenes;
    }

    // ---- 4 plans (aside)

    public int least(int scene, int y, int r) {
        if (!isScene(scene) || !isYear(y) || !isRow(r)) {
            return BAD;
        }
        plans.begin(true, false);
        plans.want(y, 1 << scene);
        return fewestInto(r);
    }

    public int ways(int scene, int y, int n) {
        if (!isScene(scene) || !isYear(y) || n < 0 || n > MOST_YEARS) {
            return BAD;
        }
        plans.begin(true, false);
        plans.want(y, 1 << scene);
        tellFraction(plans.seek(cloth, n), 1);
        return 1;
    }

    public int avert(int scene, int r) {
        if (!isScene(scene) || !isRow(r)) {
            return BAD;
        }
        if (cloth.years == 0) {
            return STATE;
        }
        plans.begin(true, false);
        for (int y = 0; y < cloth.years; y++) {
            plans.want(y, WHATEVER & ~(1 << scene));
        }
        return fewestInto(r);
    }

    public int judge(int r) {
        if (!isRow(r)) {
            return BAD;
        }
        if (cloth.years == 0) {
            return STATE;
        }
        Row plan = rows[r];
        if (plan.isMissing()) {
            return refuse(NOTHING);
        }
        if (plan.size != cloth.years) {
            return refuse(SIZE);
        }
        for (int y = 0; y < cloth.years; y++) {
            if (!cloth.allows(y, plan.places[y])) {
                return refuse(UNLIKE);
            }
        }
        aside.take(cloth);
        for (int y = 0; y < cloth.years; y++) {
            aside.change(y, plan.places[y]);
        }
        aside.settleFrom(0);
        told = aside.yearsWithSomething();
        return Integer.bitCount(aside.brokenLaws());
    }

    // ---- 5 what was there

    public int was(int y, int r) {
        if (!isYear(y) || !isRow(r)) {
            return BAD;
        }
        if (cloth.what[y] != HOLE) {
            return STATE;
        }
        int refused = refuseHistory(r);
        if (refused != GOOD) {
            return refused;
        }
        aside.take(cloth);
        int scenes = 0;
        for (int s = 0; s < SCENES; s++) {
            aside.set(y, HOLE, s);
            aside.settleFrom(0);
            if (aside.happensAs(rows[r].places)) {
                scenes |= 1 << s;
            }
        }
        return scenes;
    }

    public int kinds(int k, int r) {
        if (!isLaw(k) || !isRow(r)) {
            return BAD;
        }
        int refused = refuseHistory(r);
        if (refused != GOOD) {
            return refused;
        }
        aside.take(cloth);
        int kinds = 0;
        for (int kind = 0; kind < KINDS; kind++) {
            aside.kind[k] = kind;
            aside.settleFrom(0);
            if (aside.happensAs(rows[r].places)) {
                kinds |= 1 << kind;
            }
        }
        return kinds;
    }

    public int needed() {
        aside.take(cloth);
        int laws = 0;
        for (int k = 0; k < cloth.laws; k++) {
            // A BAR makes nothing come, so a LAW that is made one is as good as gone.
            aside.kind[k] = BAR;
            aside.settleFrom(0);
            if (!aside.happensAs(cloth.happening)) {
                laws |= 1 << k;
            }
            aside.kind[k] = cloth.kind[k];
        }
        return laws;
    }

    public int forged(int r) {
        if (!isRow(r)) {
            return BAD;
        }
        if (cloth.years == 0) {
            return STATE;
        }
        int refused = refuseHistory(r);
        if (refused != GOOD) {
            return refused;
        }
        plans.begin(false, false);
        for (int y = 0; y < cloth.years; y++) {
            plans.want(y, happeningBit(rows[r].places[y]));
        }
        int number = plans.seek(cloth, 1);
        told = number == 0 ? NONE : firstChanged(plans.first);
        return number;
    }

    // ---- 6 chances, lots

    public int odds(int scene, int y) {
        if (!isScene(scene) || !isYear(y)) {
            return BAD;
        }
        plans.begin(false, true);
        plans.want(y, 1 << scene);
        int favourable = plans.seek(cloth, MOST_YEARS);
        long all = 1;
        for (int n = Integer.bitCount(cloth.yearsThatAre(PLAIN)); n > 0; n--) {
            all *= SCENES + 1;
        }
        tellFraction(favourable, all);
        return 1;
    }

    public int lots(int n, int seed) {
        if (n < 1 || n > MOST_LOTS || seed < 1 || seed >= LOT_MODULUS) {
            return BAD;
        }
        if (cloth.years == 0) {
            return STATE;
        }
        if (cloth.stitches + n > MOST_STITCHES) {
            return FULL;
        }
        long lot = seed;
        for (int i = 0; i < n; i++) {
            lot = lot * LOT_FACTOR % LOT_MODULUS;
            int y = (int) (lot % cloth.years);
            cloth.stitch(y, cloth.what[y] == SEWN ? UNPICKED : (int) (lot / 32 % SCENES));
        }
        return Integer.bitCount(cloth.brokenLaws());
    }

    // ---- 7 what is told

    public int asked() {
        return told;
    }

    public long upper() {
        return upperTold;
    }

    public long lower() {
        return lowerTold;
    }

    public int count(int what) {
        switch (what) {
            case 0:
                return cloth.years;
            case 1:
                return cloth.laws;
            case 2:
                return cloth.stitches;
            case 3:
                return Integer.bitCount(cloth.yearsThatAre(HOLE));
            case 4:
                return Integer.bitCount(cloth.yearsWithSomething());
            case 5:
                return cloth.lawsOfKind(BAR);
            case 6:
                return thatAreThere(rows);
            case 7:
                return thatAreThere(texts);
            case 8:
                return keptCloths();
            default:
                return BAD;
        }
    }

    public int finding() {
        return latestFound;
    }

    public int findings(int f) {
        if (f < NOTHING || f > SIZE) {
            return BAD;
        }
        return found[f];
    }

    public long digest() {
        long h = 17;
        for (int what = 0; what < COUNTS; what++) {
            h = 31 * h + count(what);
        }
        for (int y = 0; y < cloth.years; y++) {
            for (int what = 0; what <= 2; what++) {
                h = 31 * h + ofYear(y, what);
            }
        }
        for (int k = 0; k < cloth.laws; k++) {
            for (int what = 0; what <= 3; what++) {
                h = 31 * h + ofLaw(k, what);
            }
        }
        for (int k = 0; k < KEPT; k++) {
            h = 31 * h + (kept[k].years == 0 ? -1 : kept[k].stitches);
        }
        return foldRows(foldRows(h, rows), texts);
    }

    // ---- what the calls share

    private static boolean isRow(int r) {
        return r >= 0 && r < ROWS;
    }

    private static boolean isText(int t) {
        return t >= 0 && t < TEXTS;
    }

    private static boolean isKeptPlace(int k) {
        return k >= 0 && k < KEPT;
    }

    private static boolean isScene(int s) {
        return s >= 0 && s < SCENES;
    }

    private boolean isYear(int y) {
        return y >= 0 && y < cloth.years;
    }

    private boolean isLaw(int k) {
        return k >= 0 && k < cloth.laws;
    }

    private int refuse(int f) {
        if (f >= NOTHING && f <= SIZE) {
            found[f]++;
            latestFound = f;
        }
        return FINDING;
    }

    /** What refuses a place of a ROW or a TEXT; GOOD: nothing does. */
    private int refusePlace(Row row, int i) {
        if (row.isMissing()) {
            return refuse(NOTHING);
        }
        if (!row.has(i)) {
            return refuse(BEYOND);
        }
        return GOOD;
    }

    /** What refuses a ROW that is to tell what HAPPENED in each YEAR; GOOD: nothing does. */
    private int refuseHistory(int r) {
        Row row = rows[r];
        if (row.isMissing()) {
            return refuse(NOTHING);
        }
        if (row.size != cloth.years) {
            return refuse(SIZE);
        }
        for (int y = 0; y < row.size; y++) {
            int v = row.places[y];
            if (v != NONE && !isScene(v)) {
                return refuse(UNLIKE);
            }
        }
        return GOOD;
    }

    private int stitched(int y, int change) {
        if (!cloth.allows(y, change)) {
            return STATE;
        }
        if (cloth.stitches >= MOST_STITCHES) {
            return FULL;
        }
        cloth.stitch(y, change);
        return Integer.bitCount(cloth.brokenLaws());
    }

    private int ofYear(int y, int what) {
        switch (what) {
            case 0:
                return cloth.what[y];
            case 1:
                return cloth.scene[y];
            default:
                return cloth.happening[y];
        }
    }

    private int ofLaw(int k, int what) {
        switch (what) {
            case 0:
                return cloth.kind[k];
            case 1:
                return cloth.cause[k];
            case 2:
                return cloth.end[k];
            default:
                return cloth.isBroken(k) ? 1 : 0;
        }
    }

    /** Whether nothing is BROKEN aside, whichever SCENE is SEWN there in a YEAR. */
    private boolean isWholeWhateverIsSewn(int y) {
        for (int s = 0; s < SCENES; s++) {
            aside.set(y, SEWN, s);
            aside.settleFrom(0);
            if (aside.brokenLaws() != 0) {
                return false;
            }
        }
        return true;
    }

    /** The first of the wanted PLANS with the fewest STITCHES comes to a ROW: how many; NONE: there is none. */
    private int fewestInto(int r) {
        for (int n = 0; n <= cloth.years; n++) {
            if (plans.seek(cloth, n) > 0) {
                rows[r].begin(cloth.years, 0);
                System.arraycopy(plans.first, 0, rows[r].places, 0, cloth.years);
                return n;
            }
        }
        return NONE;
    }

    private int firstChanged(int[] plan) {
        for (int y = 0; y < cloth.years; y++) {
            if (plan[y] != UNCHANGED) {
                return y;
            }
        }
        return NONE;
    }

    private static int happeningBit(int happening) {
        return happening == NONE ? NOTHING_BIT : 1 << happening;
    }

    private void tellFraction(long upper, long lower) {
        long divisor = commonDivisor(upper, lower);
        if (divisor > 0) {
            upperTold = upper / divisor;
            lowerTold = lower / divisor;
        }
    }

    private static long commonDivisor(long a, long b) {
        // Euclid's steps for longs stay below 100.
        for (int step = 0; step < 100 && b != 0; step++) {
            long rest = a % b;
            a = b;
            b = rest;
        }
        return a;
    }

    private static int thatAreThere(Row[] some) {
        int n = 0;
        for (int i = 0; i < some.length; i++) {
            n += some[i].isMissing() ? 0 : 1;
        }
        return n;
    }

    private int keptCloths() {
        int n = 0;
        for (int k = 0; k < KEPT; k++) {
            n += kept[k].years == 0 ? 0 : 1;
        }
        return n;
    }

    private static long foldRows(long h, Row[] some) {
        for (int i = 0; i < some.length; i++) {
            Row row = some[i];
            h = 31 * h + row.size;
            for (int p = 0; p < row.size; p++) {
                h = 31 * h + row.places[p];
            }
        }
        return h;
    }

    /** A ROW, or a TEXT (whose places hold bytes alone). */
    private static final class Row {
        /** The size of a missing one, as digest() tells it. */
        static final int MISSING = -1;

        final int[] places;
        int size = MISSING;

        Row(int most) {
            places = new int[Math.max(0, most)];
        }

        boolean isMissing() {
            return size == MISSING;
        }

        boolean has(int i) {
            return i >= 0 && i < size;
        }

        boolean hasSpan(int i, int n) {
            // Not i + n, which could wrap around.
            return i >= 0 && n >= 0 && n <= size && i <= size - n;
        }

        void begin(int n, int v) {
            size = Math.max(0, Math.min(n, places.length));
            Arrays.fill(places, v);
        }

        void remove() {
            size = MISSING;
        }
    }

    /** A CLOTH; one without YEARS stands for none. */
    private static final class Cloth {
        int years = 0;
        final int[] what = new int[MOST_YEARS];
        /** The SCENE that is, or was there. */
        final int[] scene = new int[MOST_YEARS];

        int laws = 0;
        final int[] kind = new int[MOST_LAWS];
        final int[] cause = new int[MOST_LAWS];
        final int[] end = new int[MOST_LAWS];

        /** Of each STITCH its YEAR, and what that was before. */
        int stitches = 0;
        final int[] stitchYear = new int[MOST_STITCHES];
        final int[] whatBefore = new int[MOST_STITCHES];
        final int[] sceneBefore = new int[MOST_STITCHES];

        /** What HAPPENS in each YEAR, and by which LAW; settle() makes them so. */
        final int[] happening = new int[MOST_YEARS];
        final int[] maker = new int[MOST_YEARS];

        void clear() {
            years = 0;
            laws = 0;
            stitches = 0;
        }

        void take(Cloth other) {
            years = other.years;
            System.arraycopy(other.what, 0, what, 0, MOST_YEARS);
            System.arraycopy(other.scene, 0, scene, 0, MOST_YEARS);
            laws = other.laws;
            System.arraycopy(other.kind, 0, kind, 0, MOST_LAWS);
            System.arraycopy(other.cause, 0, cause, 0, MOST_LAWS);
            System.arraycopy(other.end, 0, end, 0, MOST_LAWS);
            stitches = other.stitches;
            System.arraycopy(other.stitchYear, 0, stitchYear, 0, MOST_STITCHES);
            System.arraycopy(other.whatBefore, 0, whatBefore, 0, MOST_STITCHES);
            System.arraycopy(other.sceneBefore, 0, sceneBefore, 0, MOST_STITCHES);
        }

        void addYear(int s) {
            if (years < MOST_YEARS) {
                set(years, s == NONE ? PLAIN : SEWN, s);
                years++;
            }
        }

        void addLaw(int ofKind, int ofCause, int ofEnd) {
            if (laws < MOST_LAWS) {
                kind[laws] = ofKind;
                cause[laws] = ofCause;
                end[laws] = ofEnd;
                laws++;
            }
        }

        void set(int y, int w, int s) {
            what[y] = w;
            scene[y] = s;
        }

        // -- stitches

        boolean allows(int y, int change) {
            if (change == UNCHANGED) {
                return true;
            }
            return what[y] == SEWN ? change == UNPICKED : isScene(change);
        }

        void change(int y, int change) {
            if (change == UNPICKED) {
                what[y] = HOLE;
            } else if (change != UNCHANGED) {
                set(y, SEWN, change);
            }
        }

        void stitch(int y, int change) {
            if (stitches >= MOST_STITCHES) {
                return;
            }
            stitchYear[stitches] = y;
            whatBefore[stitches] = what[y];
            sceneBefore[stitches] = scene[y];
            stitches++;
            change(y, change);
            settleFrom(y);
        }

        void unstitch(int n) {
            for (int i = stitches - 1; i >= n; i--) {
                set(stitchYear[i], whatBefore[i], sceneBefore[i]);
            }
            stitches = n;
            settleFrom(0);
        }

        // -- what happens

        void settleFrom(int first) {
            for (int y = first; y < years; y++) {
                settle(y);
            }
        }

        void settle(int y) {
            if (what[y] == SEWN) {
                maker[y] = NONE;
                happening[y] = scene[y];
                return;
            }
            int k = what[y] == HOLE ? gapFor(scene[y]) : lawHoldingIn(y);
            maker[y] = k;
            happening[y] = k == NONE ? NONE : end[k];
        }

        private int gapFor(int s) {
            for (int k = 0; k < laws; k++) {
                if (kind[k] == GAP && cause[k] == s) {
                    return k;
                }
            }
            return NONE;
        }

        private int lawHoldingIn(int y) {
            for (int k = 0; k < laws; k++) {
                if (holds(k, y)) {
                    return k;
                }
            }
            return NONE;
        }

        private boolean holds(int k, int y) {
            boolean ahead = y >= 1 && happening[y - 1] == cause[k];
            boolean twoAhead = y >= 2 && happening[y - 2] == cause[k];
            switch (kind[k]) {
                case LAW:
                    return ahead;
                case ECHO:
                    return twoAhead;
                case STORM:
                    return ahead || twoAhead;
                default:
                    return false;
            }
        }

        boolean happensAs(int[] happened) {
            for (int y = 0; y < years; y++) {
                if (happening[y] != happened[y]) {
                    return false;
                }
            }
            return true;
        }

        int yearsWith(int s) {
            int bits = 0;
            for (int y = 0; y < years; y++) {
                bits |= happening[y] == s ? 1 << y : 0;
            }
            return bits;
        }

        int yearsWithSomething() {
            return ((1 << years) - 1) & ~yearsWith(NONE);
        }

        int yearsThatAre(int w) {
            int bits = 0;
            for (int y = 0; y < years; y++) {
                bits |= what[y] == w ? 1 << y : 0;
            }
            return bits;
        }

        // -- laws

        boolean isOfKind(int k, int ofKind) {
            return kind[k] == ofKind || PARENTS[kind[k]] == ofKind;
        }

        int lawsOfKind(int ofKind) {
            int n = 0;
            for (int k = 0; k < laws; k++) {
                n += isOfKind(k, ofKind) ? 1 : 0;
            }
            return n;
        }

        /** Whether a LAW is BROKEN by what HAPPENS in a YEAR beside what does in those ahead of it. */
        private boolean isBrokenIn(int k, int y) {
            if (!isOfKind(k, BAR)) {
                return false;
            }
            for (int x = kind[k] == KNOT ? 0 : Math.max(0, y - 1); x < y; x++) {
                if (happening[x] == cause[k] && happening[y] == end[k]
                        || happening[x] == end[k] && happening[y] == cause[k]) {
                    return true;
                }
            }
            return false;
        }

        boolean isBroken(int k) {
            for (int y = 1; y < years; y++) {
                if (isBrokenIn(k, y)) {
                    return true;
                }
            }
            return false;
        }

        boolean isAnyBrokenIn(int y) {
            for (int k = 0; k < laws; k++) {
                if (isBrokenIn(k, y)) {
                    return true;
                }
            }
            return false;
        }

        int brokenLaws() {
            int bits = 0;
            for (int k = 0; k < laws; k++) {
                bits |= isBroken(k) ? 1 << k : 0;
            }
            return bits;
        }

        /** The first YEAR in which the CAUSE or the END of one of some LAWS (bits) HAPPENS. */
        int firstYearOf(int some) {
            int bits = 0;
            for (int k = 0; k < laws; k++) {
                if ((some >> k & 1) != 0) {
                    bits |= yearsWith(cause[k]) | yearsWith(end[k]);
                }
            }
            return bits == 0 ? NONE : Integer.numberOfTrailingZeros(bits);
        }
    }

    /** Reads a CLOTH from a TEXT. */
    private static final class Reader {
        private Reader() {
        }

        /** The TEXT's FAULT; NONE: the CLOTH is as the TEXT says, but for what HAPPENS. */
        static int read(Row text, Cloth into) {
            into.clear();
            int i = pastBlanks(text, 0);
            if (signAt(text, i) != 'y') {
                return i;
            }
            i++;
            for (int n = 0; n < MOST_YEARS && isYearSign(signAt(text, i)); n++) {
                int sign = signAt(text, i);
                into.addYear(sign == '-' ? NONE : sign - '0');
                i++;
            }
            if (into.years < LEAST_YEARS) {
                return i;
            }
            return readLaws(text, i, into);
        }

        private static int readLaws(Row text, int from, Cloth into) {
            int i = pastBlanks(text, from);
            for (int n = 0; n < MOST_LAWS && i < text.size; n++) {
                int kind = kindOf(signAt(text, i));
                if (kind == NONE) {
                    return i;
                }
                int cause = signAt(text, i + 1) - '0';
                if (!isScene(cause)) {
                    return i + 1;
                }
                int end = signAt(text, i + 2) - '0';
                if (!isScene(end)) {
                    return i + 2;
                }
                into.addLaw(kind, cause, end);
                i = pastBlanks(text, i + 3);
            }
            return i < text.size ? i : NONE;
        }

        private static int pastBlanks(Row text, int from) {
            int i = from;
            while (i < text.size && signAt(text, i) == BLANK) {
                i++;
            }
            return i;
        }

        /** NONE: the TEXT has ended. */
        private static int signAt(Row text, int i) {
            return text.has(i) ? text.places[i] : NONE;
        }

        private static boolean isYearSign(int sign) {
            return sign == '-' || isScene(sign - '0');
        }

        private static int kindOf(int sign) {
            for (int kind = 0; kind < KINDS; kind++) {
                if (LETTERS[kind] == sign) {
                    return kind;
                }
            }
            return NONE;
        }
    }

    /** Goes through PLANS in their order and finds those that are wanted. */
    private static final class Plans {
        private final Cloth tried = new Cloth();
        private final int[] plan = new int[MOST_YEARS];
        private final int[] wanted = new int[MOST_YEARS];
        private int mostStitches = 0;
        private boolean wholeAlone = false;
        private boolean plainAlone = false;
        private int number = 0;

        /** The first PLAN that was found, if one was. */
        final int[] first = new int[MOST_YEARS];

        /** Whether those alone by which nothing is BROKEN; those alone that CHANGE none but PLAIN YEARS. */
        void begin(boolean whole, boolean plain) {
            wholeAlone = whole;
            plainAlone = plain;
            Arrays.fill(wanted, WHATEVER);
        }

        /** What may HAPPEN in a YEAR, by bits. */
        void want(int y, int happenings) {
            wanted[y] = happenings;
        }

        /** How many there are with so many STITCHES at most. */
        int seek(Cloth cloth, int most) {
            tried.take(cloth);
            mostStitches = most;
            number = 0;
            goOn(0, 0);
            return number;
        }

        /** Each CHANGE of a YEAR with all of those behind it; MOST_YEARS is the depth's bound. */
        private void goOn(int y, int used) {
            if (y >= tried.years || y >= MOST_YEARS) {
                add();
                return;
            }
            int what = tried.what[y];
            int scene = tried.scene[y];
            for (int c = 0; c <= UNCHANGED; c++) {
                int usedThen = c == UNCHANGED ? used : used + 1;
                if (usedThen <= mostStitches && isAllowed(y, c)) {
                    tried.change(y, c);
                    tried.settle(y);
                    if (fits(y)) {
                        plan[y] = c;
                        goOn(y + 1, usedThen);
                    }
                    tried.set(y, what, scene);
                }
            }
        }

        private boolean isAllowed(int y, int change) {
            if (plainAlone && tried.what[y] != PLAIN) {
                return change == UNCHANGED;
            }
            return tried.allows(y, change);
        }

        /** What HAPPENS hangs on the YEARS ahead alone, and what is BROKEN stays so: what fails here fails for good. */
        private boolean fits(int y) {
            if ((wanted[y] & happeningBit(tried.happening[y])) == 0) {
                return false;
            }
            return !wholeAlone || !tried.isAnyBrokenIn(y);
        }

        private void add() {
            if (number == 0) {
                System.arraycopy(plan, 0, first, 0, MOST_YEARS);
            }
            number++;
        }
    }
}
