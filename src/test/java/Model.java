import java.math.BigInteger;
import java.util.ArrayList;
import java.util.Arrays;
import java.util.List;
import java.util.TreeSet;
import java.util.function.Predicate;
import java.util.regex.Matcher;
import java.util.regex.Pattern;

/**
 * The document said a second time, as slowly and plainly as can be and in another way than the class: FAULTS by a
 * regular expression, STITCHES by doing all of them again, PLANS by trying each row of changes there is.
 */
final class Model {
    static final int BAD = -1, FULL = -2, FINDING = -3, STATE = -4, NONE = -9;
    private static final Pattern CLOTH = Pattern.compile(" *y[0-4-]{2,5} *(?:[lbgeks][0-4][0-4] *){0,8}");

    record Law(char letter, int cause, int end) {
        boolean isBar() {
            return letter == 'b' || letter == 'k';
        }

        boolean isEcho() {
            return letter == 'e' || letter == 's';
        }
    }

    /** A sign each: 0 to 4 SEWN, - PLAIN, a to e a HOLE in which 0 to 4 was. */
    private String start = "";
    private List<Law> laws = new ArrayList<>();
    private List<int[]> stitches = new ArrayList<>();

    record Kept(List<Law> laws, List<int[]> stitches) {
    }

    private final Kept[] kept = new Kept[3];
    private final int[][] rows = new int[6][];
    private final byte[][] texts = new byte[4][];
    private final int[] found = new int[6];
    private int latest = 0;
    private int asked = 0;
    private BigInteger upper = BigInteger.ZERO;
    private BigInteger lower = BigInteger.ONE;

    // ---- the small world

    private static String changed(String years, int y, int change) {
        char before = years.charAt(y);
        char after = change == 6 ? before : change == 5 ? (char) ('a' + (before - '0')) : (char) ('0' + change);
        return years.substring(0, y) + after + years.substring(y + 1);
    }

    private String now() {
        String years = start;
        for (int[] stitch : stitches) {
            years = changed(years, stitch[0], stitch[1]);
        }
        return years;
    }

    private static boolean sewn(char year) {
        return year >= '0' && year <= '4';
    }

    private static boolean hole(char year) {
        return year >= 'a';
    }

    /** For each YEAR what HAPPENS, and by which LAW. */
    private static int[][] history(String years, List<Law> laws) {
        int[] happens = new int[years.length()];
        int[] by = new int[years.length()];
        for (int y = 0; y < years.length(); y++) {
            char year = years.charAt(y);
            happens[y] = sewn(year) ? year - '0' : NONE;
            by[y] = NONE;
            for (int k = laws.size() - 1; k >= 0 && !sewn(year); k--) {
                Law law = laws.get(k);
                boolean one = y > 0 && happens[y - 1] == law.cause;
                boolean two = y > 1 && happens[y - 2] == law.cause;
                boolean comes = hole(year)
                        ? law.letter == 'g' && law.cause == year - 'a'
                        : law.letter == 'l' && one || law.letter == 'e' && two || law.letter == 's' && (one || two);
                if (comes) {
                    happens[y] = law.end;
                    by[y] = k;
                }
            }
        }
        return new int[][] {happens, by};
    }

    private static boolean isBroken(Law law, int[] happens) {
        for (int a = 0; a < happens.length; a++) {
            for (int b = 0; b < happens.length; b++) {
                boolean both = a != b && happens[a] == law.cause && happens[b] == law.end;
                if (both && (law.letter == 'k' || law.letter == 'b' && Math.abs(a - b) == 1)) {
                    return true;
                }
            }
        }
        return false;
    }

    private static int brokenLaws(int[] happens, List<Law> laws) {
        int bits = 0;
        for (int k = 0; k < laws.size(); k++) {
            bits |= isBroken(laws.get(k), happens) ? 1 << k : 0;
        }
        return bits;
    }

    private int[] happens() {
        return history(now(), laws)[0];
    }

    private int years() {
        return start.length();
    }

    private static boolean canBe(char year, int change) {
        return change == 6 || (sewn(year) ? change == 5 : change >= 0 && change <= 4);
    }

    /** All PLANS, in their order. */
    private List<int[]> plans() {
        List<int[]> all = new ArrayList<>();
        int total = (int) Math.pow(7, years());
        String years = now();
        for (int number = 0; number < total; number++) {
            int[] plan = new int[years()];
            int rest = number;
            boolean can = true;
            for (int y = years() - 1; y >= 0; y--) {
                plan[y] = rest % 7;
                rest /= 7;
                can &= canBe(years.charAt(y), plan[y]);
            }
            if (can) {
                all.add(plan);
            }
        }
        return all;
    }

    private static int stitchesOf(int[] plan) {
        return (int) Arrays.stream(plan).filter(c -> c != 6).count();
    }

    private int[] happensBy(int[] plan) {
        String years = now();
        for (int y = 0; y < plan.length; y++) {
            years = changed(years, y, plan[y]);
        }
        return history(years, laws)[0];
    }

    private List<int[]> plansBy(Predicate<int[]> wanted) {
        List<int[]> some = new ArrayList<>();
        for (int[] plan : plans()) {
            if (wanted.test(happensBy(plan))) {
                some.add(plan);
            }
        }
        return some;
    }

    private boolean whole(int[] happens) {
        return brokenLaws(happens, laws) == 0;
    }

    private int leastInto(int r, List<int[]> plans) {
        int fewest = plans.stream().mapToInt(Model::stitchesOf).min().orElse(NONE);
        plans.stream().filter(p -> stitchesOf(p) == fewest).findFirst().ifPresent(p -> rows[r] = p.clone());
        return fewest;
    }

    // ---- refusals

    private static boolean in(int v, int below) {
        return v >= 0 && v < below;
    }

    private int find(int f) {
        found[f]++;
        latest = f;
        return FINDING;
    }

    private int tell(int v) {
        asked = v;
        return 1;
    }

    private void tell(long above, long below) {
        BigInteger a = BigInteger.valueOf(above);
        BigInteger b = BigInteger.valueOf(below);
        upper = a.divide(a.gcd(b));
        lower = b.divide(a.gcd(b));
    }

    private int history(int r) {
        if (rows[r] == null) {
            return find(1);
        }
        if (rows[r].length != years()) {
            return find(5);
        }
        boolean told = Arrays.stream(rows[r]).allMatch(v -> v == NONE || in(v, 5));
        return told ? 0 : find(3);
    }

    // ---- the calls

    int row(int r, int n) {
        if (!in(r, 6) || n > 40) {
            return BAD;
        }
        if (n < 0) {
            return find(5);
        }
        rows[r] = new int[n];
        return n;
    }

    int lay(int r, int i, int v) {
        int answer = at(r, i);
        if (answer == 1) {
            rows[r][i] = v;
        }
        return answer;
    }

    int at(int r, int i) {
        if (!in(r, 6)) {
            return BAD;
        }
        return rows[r] == null ? find(1) : !in(i, rows[r].length) ? find(2) : tell(rows[r][i]);
    }

    int tear(int r) {
        if (!in(r, 6)) {
            return BAD;
        }
        if (rows[r] == null) {
            return find(1);
        }
        rows[r] = null;
        return 1;
    }

    int copy(int r, int i, int to, int j, int n) {
        if (!in(r, 6) || !in(to, 6)) {
            return BAD;
        }
        if (n < 0) {
            return find(5);
        }
        if (rows[r] == null || rows[to] == null) {
            return find(1);
        }
        if (i < 0 || j < 0 || (long) i + n > rows[r].length || (long) j + n > rows[to].length) {
            return find(2);
        }
        int[] taken = Arrays.copyOfRange(rows[r], i, i + n);
        for (int p = 0; p < n; p++) {
            rows[to][j + p] = taken[p];
        }
        return 1;
    }

    int mean(int r) {
        if (!in(r, 6)) {
            return BAD;
        }
        if (rows[r] == null) {
            return find(1);
        }
        if (rows[r].length == 0) {
            return find(4);
        }
        return tell((int) (Arrays.stream(rows[r]).asLongStream().sum() / rows[r].length));
    }

    int text(int t, int n) {
        if (!in(t, 4) || n > 60) {
            return BAD;
        }
        if (n < 0) {
            return find(5);
        }
        texts[t] = new byte[n];
        Arrays.fill(texts[t], (byte) ' ');
        return n;
    }

    int put(int t, int i, int v) {
        if (!in(t, 4)) {
            return BAD;
        }
        if (texts[t] == null) {
            return find(1);
        }
        if (!in(i, texts[t].length)) {
            return find(2);
        }
        int before = texts[t][i];
        texts[t][i] = (byte) v;
        return before + 1000;
    }

    private static String signs(byte[] text) {
        return new String(text, java.nio.charset.StandardCharsets.ISO_8859_1);
    }

    private static int faultOf(String signs) {
        for (int i = 0; i < signs.length(); i++) {
            Matcher begun = CLOTH.matcher(signs.substring(0, i + 1));
            if (!begun.matches() && !begun.hitEnd()) {
                return i;
            }
        }
        return CLOTH.matcher(signs).matches() ? NONE : signs.length();
    }

    int fault(int t) {
        if (!in(t, 4)) {
            return BAD;
        }
        return texts[t] == null ? find(1) : faultOf(signs(texts[t]));
    }

    int cloth(int t) {
        if (!in(t, 4)) {
            return BAD;
        }
        if (texts[t] == null) {
            return find(1);
        }
        String signs = signs(texts[t]);
        if (faultOf(signs) != NONE) {
            return STATE;
        }
        String tight = signs.replace(" ", "");
        int firstLaw = 1;
        while (firstLaw < tight.length() && "01234-".indexOf(tight.charAt(firstLaw)) >= 0) {
            firstLaw++;
        }
        start = tight.substring(1, firstLaw);
        laws = new ArrayList<>();
        for (int i = firstLaw; i < tight.length(); i += 3) {
            laws.add(new Law(tight.charAt(i), tight.charAt(i + 1) - '0', tight.charAt(i + 2) - '0'));
        }
        stitches = new ArrayList<>();
        Arrays.fill(kept, null);
        return years();
    }

    private int ofYear(int y, int what) {
        char year = now().charAt(y);
        if (what == 2) {
            return happens()[y];
        }
        if (sewn(year)) {
            return what == 0 ? 1 : year - '0';
        }
        return hole(year) ? (what == 0 ? 2 : year - 'a') : (what == 0 ? 0 : NONE);
    }

    int year(int y, int what) {
        return !in(y, years()) || !in(what, 3) ? BAD : tell(ofYear(y, what));
    }

    private int ofLaw(int k, int what) {
        Law law = laws.get(k);
        int broken = isBroken(law, happens()) ? 1 : 0;
        return new int[] {"lbgeks".indexOf(law.letter), law.cause, law.end, broken}[what];
    }

    int law(int k, int what) {
        return !in(k, laws.size()) || !in(what, 4) ? BAD : tell(ofLaw(k, what));
    }

    int mark(int k, int kind) {
        if (!in(k, laws.size()) || kind < 1 || kind > 5) {
            return BAD;
        }
        Law law = laws.get(k);
        boolean is = switch (kind) {
            case 1 -> law.isBar();
            case 3 -> law.isEcho();
            default -> law.letter == "lbgeks".charAt(kind);
        };
        if (!is) {
            return find(3);
        }
        int n = 0;
        boolean causeHappens = false;
        boolean endHappens = false;
        for (int y = 0; y < years(); y++) {
            int h = happens()[y];
            char year = now().charAt(y);
            causeHappens |= h == law.cause;
            endHappens |= h == law.end;
            n += kind == 1 && (h == law.cause || h == law.end) ? 1 : 0;
            n += kind == 2 && hole(year) && h == law.end ? 1 : 0;
            n += kind == 3 && h == law.cause ? 1 : 0;
            n += kind == 5 && year == '-' && h == law.end ? 1 : 0;
        }
        return kind == 4 ? (causeHappens ^ endHappens ? 1 : 0) : n;
    }

    int end(int k, int scene) {
        if (!in(k, laws.size()) || !in(scene, 5)) {
            return BAD;
        }
        if (!stitches.isEmpty()) {
            return STATE;
        }
        Law law = laws.get(k);
        laws.set(k, new Law(law.letter, law.cause, scene));
        return law.end;
    }

    private int stitch(int y, int change) {
        if (!canBe(now().charAt(y), change)) {
            return STATE;
        }
        if (stitches.size() == 40) {
            return FULL;
        }
        stitches.add(new int[] {y, change});
        return Integer.bitCount(brokenLaws(happens(), laws));
    }

    int sew(int y, int scene) {
        return !in(y, years()) || !in(scene, 5) ? BAD : stitch(y, scene);
    }

    int unpick(int y) {
        return !in(y, years()) ? BAD : stitch(y, 5);
    }

    int undo(int n) {
        if (n < 0 || n > stitches.size()) {
            return BAD;
        }
        int undone = stitches.size() - n;
        stitches = new ArrayList<>(stitches.subList(0, n));
        return undone;
    }

    int keep(int k) {
        if (!in(k, 3)) {
            return BAD;
        }
        if (years() == 0) {
            return STATE;
        }
        kept[k] = new Kept(new ArrayList<>(laws), new ArrayList<>(stitches));
        return stitches.size();
    }

    int on(int k) {
        if (!in(k, 3)) {
            return BAD;
        }
        if (kept[k] == null) {
            return find(1);
        }
        laws = new ArrayList<>(kept[k].laws);
        stitches = new ArrayList<>(kept[k].stitches);
        return stitches.size();
    }

    int happens(int scene) {
        if (!in(scene, 5)) {
            return BAD;
        }
        int bits = 0;
        int n = 0;
        for (int y = 0; y < years(); y++) {
            if (happens()[y] == scene) {
                bits |= 1 << y;
                n++;
            }
        }
        tell(bits);
        return n;
    }

    int by(int y) {
        return !in(y, years()) ? BAD : history(now(), laws)[1][y];
    }

    int broken() {
        int[] happens = happens();
        int bits = brokenLaws(happens, laws);
        TreeSet<Integer> years = new TreeSet<>();
        for (int y = 0; y < years(); y++) {
            for (Law law : laws) {
                if (isBroken(law, happens) && (happens[y] == law.cause || happens[y] == law.end)) {
                    years.add(y);
                }
            }
        }
        tell(years.isEmpty() ? NONE : years.first());
        return bits;
    }

    int can(int y) {
        if (!in(y, years())) {
            return BAD;
        }
        if (sewn(now().charAt(y))) {
            return STATE;
        }
        int bits = 0;
        for (int s = 0; s < 5; s++) {
            bits |= whole(history(changed(now(), y, s), laws)[0]) ? 1 << s : 0;
        }
        return bits;
    }

    int safe(int y) {
        if (!in(y, years() - 1)) {
            return BAD;
        }
        int bits = 31;
        for (int s = 0; s < 5; s++) {
            for (int behind = 0; behind < 5; behind++) {
                String years = changed(changed(now(), y, s), y + 1, behind);
                bits &= whole(history(years, laws)[0]) ? 31 : ~(1 << s);
            }
        }
        return bits;
    }

    int least(int scene, int y, int r) {
        if (!in(scene, 5) || !in(y, years()) || !in(r, 6)) {
            return BAD;
        }
        return leastInto(r, plansBy(h -> h[y] == scene && whole(h)));
    }

    int ways(int scene, int y, int n) {
        if (!in(scene, 5) || !in(y, years()) || !in(n, 6)) {
            return BAD;
        }
        tell(plansBy(h -> h[y] == scene && whole(h)).stream().filter(p -> stitchesOf(p) <= n).count(), 1);
        return 1;
    }

    int avert(int scene, int r) {
        if (!in(scene, 5) || !in(r, 6)) {
            return BAD;
        }
        if (years() == 0) {
            return STATE;
        }
        return leastInto(r, plansBy(h -> Arrays.stream(h).noneMatch(s -> s == scene) && whole(h)));
    }

    int judge(int r) {
        if (!in(r, 6)) {
            return BAD;
        }
        if (years() == 0) {
            return STATE;
        }
        if (rows[r] == null) {
            return find(1);
        }
        if (rows[r].length != years()) {
            return find(5);
        }
        for (int y = 0; y < years(); y++) {
            if (!canBe(now().charAt(y), rows[r][y])) {
                return find(3);
            }
        }
        int[] happens = happensBy(rows[r]);
        int bits = 0;
        for (int y = 0; y < years(); y++) {
            bits |= happens[y] != NONE ? 1 << y : 0;
        }
        tell(bits);
        return Integer.bitCount(brokenLaws(happens, laws));
    }

    int was(int y, int r) {
        if (!in(y, years()) || !in(r, 6)) {
            return BAD;
        }
        if (!hole(now().charAt(y))) {
            return STATE;
        }
        int refused = history(r);
        int bits = 0;
        for (int s = 0; s < 5 && refused == 0; s++) {
            String years = changed(changed(now(), y, s), y, 5);
            bits |= Arrays.equals(history(years, laws)[0], rows[r]) ? 1 << s : 0;
        }
        return refused != 0 ? refused : bits;
    }

    int kinds(int k, int r) {
        if (!in(k, laws.size()) || !in(r, 6)) {
            return BAD;
        }
        int refused = history(r);
        int bits = 0;
        for (int kind = 0; kind < 6 && refused == 0; kind++) {
            List<Law> others = new ArrayList<>(laws);
            others.set(k, new Law("lbgeks".charAt(kind), laws.get(k).cause, laws.get(k).end));
            bits |= Arrays.equals(history(now(), others)[0], rows[r]) ? 1 << kind : 0;
        }
        return refused != 0 ? refused : bits;
    }

    int needed() {
        int bits = 0;
        for (int k = 0; k < laws.size(); k++) {
            List<Law> others = new ArrayList<>(laws);
            others.remove(k);
            bits |= Arrays.equals(history(now(), others)[0], happens()) ? 0 : 1 << k;
        }
        return bits;
    }

    int forged(int r) {
        if (!in(r, 6)) {
            return BAD;
        }
        if (years() == 0) {
            return STATE;
        }
        int refused = history(r);
        if (refused != 0) {
            return refused;
        }
        int n = 0;
        int first = NONE;
        for (int[] plan : plans()) {
            if (stitchesOf(plan) <= 1 && Arrays.equals(happensBy(plan), rows[r])) {
                for (int y = 0; y < years() && n == 0; y++) {
                    first = plan[y] != 6 ? y : first;
                }
                n++;
            }
        }
        tell(first);
        return n;
    }

    int odds(int scene, int y) {
        if (!in(scene, 5) || !in(y, years())) {
            return BAD;
        }
        long good = 0;
        long all = 0;
        for (int[] plan : plans()) {
            boolean plainAlone = true;
            for (int at = 0; at < years(); at++) {
                plainAlone &= plan[at] == 6 || now().charAt(at) == '-';
            }
            if (plainAlone) {
                all++;
                good += happensBy(plan)[y] == scene ? 1 : 0;
            }
        }
        tell(good, all);
        return 1;
    }

    int lots(int n, int seed) {
        if (n < 1 || n > 10 || seed < 1 || seed == Integer.MAX_VALUE) {
            return BAD;
        }
        if (years() == 0) {
            return STATE;
        }
        if (stitches.size() + n > 40) {
            return FULL;
        }
        long lot = seed;
        for (int i = 0; i < n; i++) {
            lot = 48271 * lot % 2147483647;
            int y = (int) (lot % years());
            stitch(y, sewn(now().charAt(y)) ? 5 : (int) (lot / 32 % 5));
        }
        return Integer.bitCount(brokenLaws(happens(), laws));
    }

    int asked() {
        return asked;
    }

    long upper() {
        return upper.longValueExact();
    }

    long lower() {
        return lower.longValueExact();
    }

    int count(int what) {
        return switch (what) {
            case 0 -> years();
            case 1 -> laws.size();
            case 2 -> stitches.size();
            case 3 -> (int) now().chars().filter(c -> hole((char) c)).count();
            case 4 -> (int) Arrays.stream(happens()).filter(h -> h != NONE).count();
            case 5 -> (int) laws.stream().filter(Law::isBar).count();
            case 6 -> (int) Arrays.stream(rows).filter(r -> r != null).count();
            case 7 -> (int) Arrays.stream(texts).filter(t -> t != null).count();
            case 8 -> (int) Arrays.stream(kept).filter(k -> k != null).count();
            default -> BAD;
        };
    }

    int finding() {
        return latest;
    }

    int findings(int f) {
        return f < 1 || f > 5 ? BAD : found[f];
    }

    long digest() {
        List<Integer> values = new ArrayList<>();
        for (int what = 0; what <= 8; what++) {
            values.add(count(what));
        }
        for (int y = 0; y < years(); y++) {
            for (int what = 0; what <= 2; what++) {
                values.add(ofYear(y, what));
            }
        }
        for (int k = 0; k < laws.size(); k++) {
            for (int what = 0; what <= 3; what++) {
                values.add(ofLaw(k, what));
            }
        }
        for (Kept cloth : kept) {
            values.add(cloth == null ? -1 : cloth.stitches.size());
        }
        for (int[] row : rows) {
            values.add(row == null ? -1 : row.length);
            for (int i = 0; row != null && i < row.length; i++) {
                values.add(row[i]);
            }
        }
        for (byte[] text : texts) {
            values.add(text == null ? -1 : text.length);
            for (int i = 0; text != null && i < text.length; i++) {
                values.add((int) text[i]);
            }
        }
        long h = 17;
        for (int v : values) {
            h = 31 * h + v;
        }
        return h;
    }
}
