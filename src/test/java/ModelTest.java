import java.util.Random;

/** All promises: runs of calls by a fixed seed, each answer against the model's. */
public final class ModelTest {
    private static final int RUNS = 2500, CALLS = 512, LAST_CALLS = 10;
    private static final String[] NAMES = {"row", "lay", "at", "tear", "copy", "mean", "text", "put", "fault", "cloth",
        "year", "law", "mark", "end", "sew", "unpick", "undo", "keep", "on", "happens", "by", "broken", "can", "safe",
        "least", "ways", "avert", "judge", "was", "kinds", "needed", "forged", "odds", "lots", "asked", "upper",
        "lower", "count", "finding", "findings", "digest"};
    /** How often each is called: those that go through all PLANS are dear in the model. */
    private static final int[] OFTEN = {4, 4, 3, 1, 3, 2, 1, 2, 2, 1,
        5, 5, 5, 4, 12, 10, 3, 3, 3, 4, 4, 4, 4, 4,
        2, 2, 2, 6, 6, 6, 3, 2, 2, 1, 3, 1,
        1, 3, 1, 1, 3};
    private static final int ASKED = 34, UPPER = 35, LOWER = 36, FINDING = 38, FINDINGS = 39, DIGEST = 40;
    private static final int[] ODD = {-1, -2, -9, 5, 6, 7, 40, 41, 60, 61, 1000, Integer.MAX_VALUE, Integer.MIN_VALUE};

    private final Random random;
    private SewnAhead x;
    private Model model;
    private int calls;
    private long wrong = 0;
    private long right = 0;
    private final StringBuilder told = new StringBuilder();

    private ModelTest(long seed) {
        random = new Random(seed);
    }

    public static void main(String[] args) {
        long right = 0;
        long wrong = 0;
        for (int run = 0; run < RUNS && wrong == 0; run++) {
            ModelTest test = new ModelTest(run);
            test.run();
            right += test.right;
            wrong += test.wrong;
        }
        System.out.println("ModelTest: " + right + " passed, " + wrong + " failed");
        if (wrong != 0) {
            System.exit(1);
        }
    }

    private void run() {
        x = new SewnAhead();
        model = new Model();
        calls = 0;
        if (random.nextInt(20) != 0) {
            writeCloth();
        }
        while (calls < CALLS - LAST_CALLS && wrong == 0) {
            if (random.nextInt(100) == 0) {
                writeCloth();
            } else if (random.nextInt(12) == 0) {
                stitchOn();
            } else if (random.nextInt(8) == 0) {
                writeRow();
            } else {
                call(randomCall(), args());
            }
        }
        end();
    }

    private void end() {
        for (int f = 1; f <= 5; f++) {
            compare(FINDINGS, new int[] {f});
        }
        for (int op : new int[] {ASKED, UPPER, LOWER, FINDING, DIGEST}) {
            compare(op, new int[0]);
        }
    }

    private int randomCall() {
        int sum = 0;
        for (int often : OFTEN) {
            sum += often;
        }
        int lot = random.nextInt(sum);
        for (int op = 0; op < OFTEN.length; op++) {
            lot -= OFTEN[op];
            if (lot < 0) {
                return op;
            }
        }
        return OFTEN.length - 1;
    }

    private int[] args() {
        int[] a = new int[5];
        for (int i = 0; i < a.length; i++) {
            a[i] = random.nextInt(14) == 0 ? ODD[random.nextInt(ODD.length)] : random.nextInt(5);
        }
        return a;
    }

    /** A CLOTH's TEXT, now and then with a slip in it. */
    private void writeCloth() {
        StringBuilder signs = new StringBuilder(blanks()).append('y');
        int years = 2 + random.nextInt(4);
        int scenes = 2 + random.nextInt(4);
        for (int y = 0; y < years; y++) {
            signs.append(random.nextInt(2) == 0 ? '-' : (char) ('0' + random.nextInt(scenes)));
        }
        int laws = random.nextInt(9);
        for (int k = 0; k < laws; k++) {
            signs.append(blanks()).append("lbgeks".charAt(random.nextInt(6)));
            signs.append(random.nextInt(scenes)).append(random.nextInt(scenes));
        }
        signs.append(blanks());
        while (random.nextInt(6) == 0) {
            int place = random.nextInt(signs.length() + 1);
            char sign = "ylbgeks01234- 5x\u00f7\u0080".charAt(random.nextInt(18));
            if (random.nextBoolean() || place == signs.length()) {
                signs.insert(place, sign);
            } else if (signs.length() > 1) {
                signs.deleteCharAt(place);
            }
        }
        int t = random.nextInt(4);
        int n = Math.min(60, signs.length());
        call(6, new int[] {t, n, 0, 0, 0});
        for (int i = 0; i < n; i++) {
            if (signs.charAt(i) != ' ') {
                call(7, new int[] {t, i, signs.charAt(i), 0, 0});
            }
        }
        call(8, new int[] {t, 0, 0, 0, 0});
        call(9, new int[] {t, 0, 0, 0, 0});
    }

    private String blanks() {
        return " ".repeat(Math.max(0, random.nextInt(4) - 2));
    }

    /** STITCHES one upon another, with some undone, kept, gone on from. */
    private void stitchOn() {
        int[] ops = {14, 14, 14, 15, 15, 15, 16, 17, 18};
        for (int i = random.nextInt(16); i > 0; i--) {
            int op = ops[random.nextInt(ops.length)];
            int a = op == 16 ? Math.max(0, model.count(2) - random.nextInt(5)) : random.nextInt(op > 16 ? 3 : 5);
            call(op, new int[] {a, random.nextInt(5), 0, 0, 0});
        }
    }

    /** A ROW of what HAPPENS, perhaps with one place changed; or a PLAN. */
    private void writeRow() {
        int r = random.nextInt(6);
        int years = model.count(0);
        boolean plan = random.nextInt(3) == 0;
        call(0, new int[] {r, random.nextInt(12) == 0 ? years + 1 : years, 0, 0, 0});
        for (int y = 0; y < years; y++) {
            call(10, new int[] {y, plan ? 0 : 2, 0, 0, 0});
            int v = model.asked();
            if (plan) {
                v = v == 1 ? 5 + random.nextInt(2) : random.nextInt(2) == 0 ? 6 : random.nextInt(5);
            }
            if (random.nextInt(9) == 0) {
                v = random.nextInt(7) - 1;
            }
            if (random.nextInt(40) == 0) {
                v = ODD[random.nextInt(ODD.length)];
            }
            call(1, new int[] {r, y, v, 0, 0});
        }
        call(new int[] {27, 28, 29, 31, 31}[random.nextInt(5)], rowArgs(r, years));
    }

    private int[] rowArgs(int r, int years) {
        int op = random.nextInt(2);
        return op == 0 ? new int[] {r, r, 0, 0, 0} : new int[] {random.nextInt(Math.max(1, years)), r, 0, 0, 0};
    }

    private void call(int op, int[] a) {
        told.append(NAMES[op]).append(java.util.Arrays.toString(a)).append('\n');
        compare(op, a);
        // Each of these is a call too, so they are made now and then.
        if (random.nextInt(3) == 0) {
            compare(ASKED, a);
        }
        if (random.nextInt(8) == 0 || NAMES[op].equals("ways") || NAMES[op].equals("odds")) {
            compare(UPPER, a);
            compare(LOWER, a);
        }
        if (random.nextInt(6) == 0) {
            compare(FINDING, a);
        }
        if (random.nextInt(12) == 0) {
            compare(DIGEST, a);
        }
    }

    private void compare(int op, int[] a) {
        if (calls >= CALLS || wrong != 0) {
            return;
        }
        calls++;
        long got = answer(op, a);
        long want = due(op, a);
        if (got == want) {
            right++;
        } else {
            wrong++;
            System.out.println(told + NAMES[op] + " answered " + got + ", due is " + want);
        }
    }

    private long answer(int op, int[] a) {
        return switch (NAMES[op]) {
            case "row" -> x.row(a[0], a[1]);
            case "lay" -> x.lay(a[0], a[1], a[2]);
            case "at" -> x.at(a[0], a[1]);
            case "tear" -> x.tear(a[0]);
            case "copy" -> x.copy(a[0], a[1], a[2], a[3], a[4]);
            case "mean" -> x.mean(a[0]);
            case "text" -> x.text(a[0], a[1]);
            case "put" -> x.put(a[0], a[1], a[2]);
            case "fault" -> x.fault(a[0]);
            case "cloth" -> x.cloth(a[0]);
            case "year" -> x.year(a[0], a[1]);
            case "law" -> x.law(a[0], a[1]);
            case "mark" -> x.mark(a[0], a[1]);
            case "end" -> x.end(a[0], a[1]);
            case "sew" -> x.sew(a[0], a[1]);
            case "unpick" -> x.unpick(a[0]);
            case "undo" -> x.undo(a[0]);
            case "keep" -> x.keep(a[0]);
            case "on" -> x.on(a[0]);
            case "happens" -> x.happens(a[0]);
            case "by" -> x.by(a[0]);
            case "broken" -> x.broken();
            case "can" -> x.can(a[0]);
            case "safe" -> x.safe(a[0]);
            case "least" -> x.least(a[0], a[1], a[2]);
            case "ways" -> x.ways(a[0], a[1], a[2]);
            case "avert" -> x.avert(a[0], a[1]);
            case "judge" -> x.judge(a[0]);
            case "was" -> x.was(a[0], a[1]);
            case "kinds" -> x.kinds(a[0], a[1]);
            case "needed" -> x.needed();
            case "forged" -> x.forged(a[0]);
            case "odds" -> x.odds(a[0], a[1]);
            case "lots" -> x.lots(a[0], a[1]);
            case "asked" -> x.asked();
            case "upper" -> x.upper();
            case "lower" -> x.lower();
            case "count" -> x.count(a[0]);
            case "finding" -> x.finding();
            case "findings" -> x.findings(a[0]);
            default -> x.digest();
        };
    }

    private long due(int op, int[] a) {
        return switch (NAMES[op]) {
            case "row" -> model.row(a[0], a[1]);
            case "lay" -> model.lay(a[0], a[1], a[2]);
            case "at" -> model.at(a[0], a[1]);
            case "tear" -> model.tear(a[0]);
            case "copy" -> model.copy(a[0], a[1], a[2], a[3], a[4]);
            case "mean" -> model.mean(a[0]);
            case "text" -> model.text(a[0], a[1]);
            case "put" -> model.put(a[0], a[1], a[2]);
            case "fault" -> model.fault(a[0]);
            case "cloth" -> model.cloth(a[0]);
            case "year" -> model.year(a[0], a[1]);
            case "law" -> model.law(a[0], a[1]);
            case "mark" -> model.mark(a[0], a[1]);
            case "end" -> model.end(a[0], a[1]);
            case "sew" -> model.sew(a[0], a[1]);
            case "unpick" -> model.unpick(a[0]);
            case "undo" -> model.undo(a[0]);
            case "keep" -> model.keep(a[0]);
            case "on" -> model.on(a[0]);
            case "happens" -> model.happens(a[0]);
            case "by" -> model.by(a[0]);
            case "broken" -> model.broken();
            case "can" -> model.can(a[0]);
            case "safe" -> model.safe(a[0]);
            case "least" -> model.least(a[0], a[1], a[2]);
            case "ways" -> model.ways(a[0], a[1], a[2]);
            case "avert" -> model.avert(a[0], a[1]);
            case "judge" -> model.judge(a[0]);
            case "was" -> model.was(a[0], a[1]);
            case "kinds" -> model.kinds(a[0], a[1]);
            case "needed" -> model.needed();
            case "forged" -> model.forged(a[0]);
            case "odds" -> model.odds(a[0], a[1]);
            case "lots" -> model.lots(a[0], a[1]);
            case "asked" -> model.asked();
            case "upper" -> model.upper();
            case "lower" -> model.lower();
            case "count" -> model.count(a[0]);
            case "finding" -> model.finding();
            case "findings" -> model.findings(a[0]);
            default -> model.digest();
        };
    }
}
