/** The edges that the document names in promises 8 to 11 and for TEXTS and FAULTS in its Terms, a sentence each. */
public final class EdgesTextsTest {
    private static final Due due = new Due("EdgesTextsTest");
    private static final int NONE = SewnAhead.NONE, STATE = SewnAhead.STATE;
    private static final int MAX = Integer.MAX_VALUE, MIN = Integer.MIN_VALUE;
    private static final int NOTHING = 1, BEYOND = 2, SIZE = 5;
    private static final int[] NO_TEXTS = {-1, 4, 5, NONE, MAX, MIN};
    private static final String EIGHT = "l00l00l00l00l00l00l00l00";

    public static void main(String[] args) {
        textsThereAre();
        text();
        put();
        blanks();
        years();
        laws();
        faultsOfLaws();
        endsTooEarly();
        eachByte();
        fault();
        cloth();
        clothRefused();
        due.end();
    }

    /** TEXT 0: a CLOTH; TEXT 1: no signs; TEXT 2: 60 with a FAULT; TEXT 3 missing. */
    private static SewnAhead three() {
        SewnAhead x = Due.cloth("y0- l01");
        x.sew(1, 4);
        x.keep(1);
        x.text(1, 0);
        Due.write(x, 2, " ".repeat(59) + "z");
        x.happens(4);
        return x;
    }

    private static void textsThereAre() {
        due.sentence("TEXTS 0 .. 3");
        for (int t = 0; t < 4; t++) {
            SewnAhead x = new SewnAhead();
            due.is("text(" + t + ", 2)", x.text(t, 2), 2);
            due.is("count(7)", x.count(7), 1);
        }
        for (int t : NO_TEXTS) {
            due.bad("text(" + t + ", 2)", EdgesTextsTest::three, x -> x.text(t, 2));
            due.bad("put(" + t + ", 0, 1)", EdgesTextsTest::three, x -> x.put(t, 0, 1));
            due.bad("fault(" + t + ")", EdgesTextsTest::three, x -> x.fault(t));
            due.bad("cloth(" + t + ")", EdgesTextsTest::three, x -> x.cloth(t));
        }
        due.sentence("rows of 0 to 60 bytes, or missing (at first)");
        SewnAhead x = new SewnAhead();
        due.is("count(7), at first", x.count(7), 0);
        due.is("text(0, 0)", x.text(0, 0), 0);
        due.is("count(7): one of no bytes is there", x.count(7), 1);
        due.is("text(0, 60)", x.text(0, 60), 60);
        due.is("put(0, 59, 1)", x.put(0, 59, 1), 1032);
        due.finds("put(0, 60, 1)", x, BEYOND, () -> x.put(0, 60, 1));
    }

    private static void text() {
        due.sentence("8 text: A TEXT is there with n blanks: n");
        SewnAhead x = new SewnAhead();
        x.text(3, 60);
        for (int i = 0; i < 60; i++) {
            x.put(3, i, 9);
        }
        due.is("text(3, 2)", x.text(3, 2), 2);
        due.is("put(3, 0, 1), smaller", x.put(3, 0, 1), 1032);
        due.is("put(3, 1, 1), smaller", x.put(3, 1, 1), 1032);
        due.finds("put(3, 2, 1), smaller", x, BEYOND, () -> x.put(3, 2, 1));
        due.is("text(3, 60)", x.text(3, 60), 60);
        for (int i = 0; i < 60; i++) {
            due.is("put(3, " + i + ", 1), larger", x.put(3, i, 1), 1032);
        }
        due.sentence("8 text: BAD: also n above 60");
        for (int n : new int[] {61, 62, MAX}) {
            due.bad("text(0, " + n + ")", EdgesTextsTest::three, z -> z.text(0, n));
            due.bad("text(3, " + n + "), missing", EdgesTextsTest::three, z -> z.text(3, n));
        }
        due.sentence("8 text: SIZE: below 0");
        for (int n : new int[] {-1, -2, MIN}) {
            due.found("text(0, " + n + ")", SIZE, EdgesTextsTest::three, z -> z.text(0, n));
            due.found("text(3, " + n + "), missing", SIZE, EdgesTextsTest::three, z -> z.text(3, n));
            due.bad("text(4, " + n + ")", EdgesTextsTest::three, z -> z.text(4, n));
        }
    }

    private static void put() {
        due.sentence("9 put: Byte i of a TEXT is v, cut to a byte: what it was, and 1000 more");
        int[][] cut = {{0, 0}, {1, 1}, {127, 127}, {128, -128}, {129, -127}, {255, -1}, {256, 0}, {257, 1},
            {383, 127}, {384, -128}, {-1, -1}, {-128, -128}, {-129, 127}, {-256, 0}, {-257, -1}, {1000, -24},
            {MAX, -1}, {MIN, 0}, {MIN + 128, -128}, {0x7fffff80, -128}, {0x12345679, 0x79}};
        SewnAhead x = new SewnAhead();
        x.text(1, 60);
        for (int i : new int[] {0, 59}) {
            int before = 32;
            for (int[] c : cut) {
                due.is("put(1, " + i + ", " + c[0] + ")", x.put(1, i, c[0]), before + 1000);
                before = c[1];
            }
        }
        due.is("put(1, 1, 0), between", x.put(1, 1, 0), 1032);
        due.is("asked()", x.asked(), 0);
        due.sentence("9 put: NOTHING");
        for (int i : new int[] {0, -1, 60}) {
            due.found("put(3, " + i + ", 1), missing", NOTHING, EdgesTextsTest::three, z -> z.put(3, i, 1));
        }
        due.sentence("9 put: BEYOND");
        for (int i : new int[] {-1, 7, 8, 59, 60, MAX, MIN}) {
            due.found("put(0, " + i + ", 1)", BEYOND, EdgesTextsTest::three, z -> z.put(0, i, 1));
        }
        due.found("put(1, 0, 1), none there", BEYOND, EdgesTextsTest::three, z -> z.put(1, 0, 1));
        due.found("put(2, 60, 1), full", BEYOND, EdgesTextsTest::three, z -> z.put(2, 60, 1));
    }

    /** What fault() answers, and that cloth() is refused by a FAULT and by nothing else. */
    private static void faultIs(String signs, int want) {
        SewnAhead x = new SewnAhead();
        Due.write(x, 2, signs);
        due.is("fault of '" + signs + "'", x.fault(2), want);
        int made = x.cloth(2);
        due.holds("cloth of '" + signs + "' answered " + made + ";", want == NONE ? made >= 2 : made == STATE);
    }

    private static void blanks() {
        due.sentence("blanks (32) ahead, between, behind as many as wanted");
        faultIs("y01l00b11", NONE);
        faultIs("y01 l00 b11", NONE);
        faultIs(" y01 l00 b11 ", NONE);
        faultIs(" ".repeat(57) + "y01", NONE);
        faultIs("y01" + " ".repeat(57), NONE);
        faultIs("y01" + " ".repeat(54) + "l00", NONE);
        faultIs("y01l00" + " ".repeat(51) + "l00", NONE);
        faultIs("   y01   l00   b11   g22   e33   k44   s04   l10   b21     ", NONE);
        faultIs("y01\t", 3);
        faultIs("y01\r", 3);
        faultIs("y01" + (char) 0, 3);
        faultIs((char) 160 + "y01", 0);
        due.sentence("none within items");
        faultIs("y 01", 1);
        faultIs("y0 1", 2);
        faultIs("y0 1 l00", 2);
        faultIs("y01 2", 4);
        faultIs("y01 - l00", 4);
        faultIs("y01 l 00", 5);
        faultIs("y01 l0 0", 6);
        faultIs("y01 l00 0", 8);
        due.sentence("The first item is y (121)");
        faultIs("01", 0);
        faultIs("  01", 2);
        faultIs("Y01", 0);
        faultIs("x01", 0);
        faultIs("z01", 0);
        faultIs("l00y01", 0);
        faultIs("l00 y01", 0);
        faultIs("yy01", 1);
        faultIs("y01y01", 3);
        faultIs("y01 y01", 4);
        faultIs("y01 l00 y01", 8);
    }

    private static void years() {
        due.sentence("YEARS: 2 to 5 signs, as many as stand together");
        faultIs("y", 1);
        faultIs("y0", 2);
        faultIs("y0l00", 2);
        faultIs("y-l00", 2);
        faultIs("yl00", 1);
        faultIs("y01", NONE);
        faultIs("y012", NONE);
        faultIs("y0123", NONE);
        faultIs("y01234", NONE);
        faultIs("y01234l00", NONE);
        due.sentence("a sixth YEAR: its place");
        faultIs("y012340", 6);
        faultIs("y01234-", 6);
        faultIs("y-----4", 6);
        faultIs("y------", 6);
        faultIs("  y-----4l00", 8);
        faultIs("y01234012", 6);
        due.sentence("a SCENE (0 .. 4), that is SEWN, or - (45): it is PLAIN");
        faultIs("y04", NONE);
        faultIs("y40", NONE);
        faultIs("y--", NONE);
        faultIs("y5", 1);
        faultIs("y05", 2);
        faultIs("y0/", 2);
        faultIs("y0,", 2);
        faultIs("y0.", 2);
        faultIs("y015", 3);
        faultIs("y012345", 6);
        SewnAhead x = Due.cloth("y04-12");
        for (int y = 0; y < 5; y++) {
            int at = y;
            due.tells("year(" + y + ", 0)", x, y == 2 ? 0 : 1, () -> x.year(at, 0));
            due.tells("year(" + y + ", 1)", x, new int[] {0, 4, NONE, 1, 2}[y], () -> x.year(at, 1));
        }
    }

    private static void laws() {
        due.sentence("LAWS (8 at most; 0, 1, .. as they come)");
        faultIs("y01", NONE);
        faultIs("y01" + EIGHT, NONE);
        faultIs("y01" + EIGHT + "   ", NONE);
        SewnAhead x = Due.cloth("y01 l04 b10 g21 e32 k43 s40 l11 b22");
        due.is("count(1)", x.count(1), 8);
        int[] kinds = {0, 1, 2, 3, 4, 5, 0, 1};
        int[] causes = {0, 1, 2, 3, 4, 4, 1, 2};
        int[] ends = {4, 0, 1, 2, 3, 0, 1, 2};
        for (int k = 0; k < 8; k++) {
            int law = k;
            due.tells("law(" + k + ", 0)", x, kinds[k], () -> x.law(law, 0));
            due.tells("law(" + k + ", 1)", x, causes[k], () -> x.law(law, 1));
            due.tells("law(" + k + ", 2)", x, ends[k], () -> x.law(law, 2));
        }
        due.sentence("a ninth LAW: its place");
        faultIs("y01" + EIGHT + "l00", 27);
        faultIs("y01" + EIGHT + "   l00", 30);
        faultIs("y01" + EIGHT + "x", 27);
        faultIs("y01" + EIGHT + "  l", 29);
        faultIs("y01234" + EIGHT + "s44s44", 30);
        due.sentence("KINDS and letters: l 108, b 98, g 103, e 101, k 107, s 115");
        for (char letter = 'a'; letter <= 'z'; letter++) {
            faultIs("y01" + letter + "00", "lbgeks".indexOf(letter) >= 0 ? NONE : 3);
        }
        for (char letter = 'A'; letter <= 'Z'; letter++) {
            faultIs("y01" + letter + "00", 3);
        }
    }

    private static void faultsOfLaws() {
        due.sentence("a letter, a CAUSE (a SCENE), an END (a SCENE), one figure each");
        faultIs("y01l04", NONE);
        faultIs("y01l40", NONE);
        faultIs("y01l50", 4);
        faultIs("y01l05", 5);
        faultIs("y01l/0", 4);
        faultIs("y01l0/", 5);
        faultIs("y01l-0", 4);
        faultIs("y01l0-", 5);
        faultIs("y01ll0", 4);
        faultIs("y01l0l", 5);
        faultIs("y01l000", 6);
        faultIs("y01l00l05", 8);
        faultIs("y01l00l0b11", 8);
        faultIs("y01l00 0", 7);
        faultIs("y01l00l00l00l00l00l00l00l05", 26);
        faultIs("y01l00l00l00l00l00l00l00x00", 24);
    }

    private static void endsTooEarly() {
        due.sentence("the TEXT's size, if its end comes too early");
        faultIs("y", 1);
        faultIs("y0", 2);
        faultIs(" y-", 3);
        faultIs("y01l", 4);
        faultIs("y01l0", 5);
        faultIs("y01 l00 b", 9);
        faultIs("y01 l00 b1", 10);
        faultIs("y01l00l00l00l00l00l00l00l0", 26);
        faultIs(" ".repeat(59) + "y", 60);
        faultIs(" ".repeat(58) + "y0", 60);
        faultIs("y01" + " ".repeat(56) + "l", 60);
        faultIs("y01" + " ".repeat(55) + "l0", 60);
        due.sentence("or there are blanks alone");
        faultIs("", 0);
        faultIs(" ", 1);
        faultIs("  ", 2);
        faultIs(" ".repeat(60), 60);
    }

    /** Each byte that there is behind a beginning: the FAULT is its place, or lies behind it, or there is none. */
    private static void eachByte() {
        due.sentence("a letter, a sign that is none such: its place");
        String[] begun = {"", "  ", "y", "y0", "y01", "y0123", "y01234", "y01 ", "y01l", "y01l0", "y01l00",
            "y01" + EIGHT};
        String[] goOn = {" y", " y", "01234-", "01234-", " 01234-lbgeks", " 01234-lbgeks", " lbgeks", " lbgeks",
            "01234", "01234", " lbgeks", " "};
        for (int b = 0; b < begun.length; b++) {
            for (int sign = 0; sign < 256; sign++) {
                SewnAhead x = new SewnAhead();
                Due.write(x, 0, begun[b] + (char) sign);
                int size = begun[b].length() + 1;
                int got = x.fault(0);
                String call = "fault of '" + begun[b] + "' with " + sign + " behind";
                if (goOn[b].indexOf(sign) < 0) {
                    due.is(call, got, size - 1);
                } else {
                    due.holds(call + " answered " + got + ";", got == NONE || got == size);
                }
            }
        }
    }

    private static void fault() {
        due.sentence("10 fault: A FAULT of a TEXT; NONE: there is none");
        SewnAhead x = three();
        long before = x.digest();
        due.is("fault(0)", x.fault(0), NONE);
        due.is("fault(1)", x.fault(1), 0);
        due.is("fault(2)", x.fault(2), 59);
        due.is("digest()", x.digest(), before);
        due.is("asked()", x.asked(), 2);
        due.is("undo(0)", x.undo(0), 1);
        due.happening("fault leaves the CLOTH", x, "01");
        due.sentence("10 fault: NOTHING");
        due.found("fault(3), missing", NOTHING, EdgesTextsTest::three, z -> z.fault(3));
        due.sentence("10 fault: a TEXT that was longer before");
        Due.write(x, 2, "y01l00");
        x.text(2, 3);
        x.put(2, 0, 'y');
        x.put(2, 1, '0');
        due.is("fault(2)", x.fault(2), 2);
        x.put(2, 2, '1');
        due.is("fault(2)", x.fault(2), NONE);
    }

    private static void cloth() {
        due.sentence("11 cloth: A CLOTH by a TEXT: how many YEARS");
        String[] cloths = {"y--", "y4-0", "y0123", "y-----"};
        for (int i = 0; i < cloths.length; i++) {
            SewnAhead x = new SewnAhead();
            Due.write(x, 3, cloths[i]);
            due.is("cloth of " + cloths[i], x.cloth(3), i + 2);
            due.is("count(0)", x.count(0), i + 2);
            due.is("count(1)", x.count(1), 0);
        }
        due.sentence("11 cloth: none of the LAWS that were there before");
        SewnAhead bars = Due.cloth("y01b01k01b01k01b01k01b01k01");
        due.is("broken(), eight LAWS", bars.broken(), 255);
        Due.write(bars, 1, "y01");
        bars.cloth(1);
        due.is("broken(), no LAWS", bars.broken(), 0);
        due.is("least(0, 0, 0), no LAWS", bars.least(0, 0, 0), 0);
        due.is("unpick(0), no LAWS", bars.unpick(0), 0);
        due.is("count(5)", bars.count(5), 0);
        due.sentence("11 cloth: (anew: no STITCHES; kept CLOTHS go)");
        SewnAhead x = Due.cloth("y0-2-4 l01" + EIGHT.substring(3));
        x.unpick(4);
        for (int k = 0; k < 3; k++) {
            x.keep(k);
        }
        Due.write(x, 1, "y-3 l34");
        due.is("cloth(1)", x.cloth(1), 2);
        due.is("count(2)", x.count(2), 0);
        due.is("count(8)", x.count(8), 0);
        due.is("undo(0)", x.undo(0), 0);
        for (int k = 0; k < 3; k++) {
            int place = k;
            due.finds("on(" + k + ")", x, NOTHING, () -> x.on(place));
        }
        due.is("year(2, 0): there are but two", x.year(2, 0), SewnAhead.BAD);
        due.is("law(1, 0): there is but one", x.law(1, 0), SewnAhead.BAD);
        due.happening("cloth(1)", x, "-3");
        due.is("end(0, 2): no STITCHES", x.end(0, 2), 4);
        due.is("cloth(1), the same TEXT", x.cloth(1), 2);
        due.tells("law(0, 2), as in the TEXT", x, 4, () -> x.law(0, 2));
        Due.write(x, 2, "y-3");
        x.unpick(1);
        x.can(0);
        due.is("cloth(2), behind STITCHES and a look aside", x.cloth(2), 2);
        due.is("count(2)", x.count(2), 0);
        due.is("undo(1)", x.undo(1), SewnAhead.BAD);
        due.is("text(1, 0), a TEXT that goes leaves the CLOTH", x.text(1, 0), 0);
        due.happening("text(1, 0)", x, "-3");
    }

    private static void clothRefused() {
        due.sentence("11 cloth: STATE: a FAULT");
        due.state("cloth(1), of no signs", EdgesTextsTest::three, x -> x.cloth(1));
        due.state("cloth(2)", EdgesTextsTest::three, x -> x.cloth(2));
        due.state("cloth(1), no CLOTH yet", () -> {
            SewnAhead x = new SewnAhead();
            Due.write(x, 1, "y01l05");
            return x;
        }, x -> x.cloth(1));
        due.state("cloth(0), a ninth LAW", () -> {
            SewnAhead x = Due.rich();
            Due.write(x, 0, "y43" + EIGHT + "l");
            return x;
        }, x -> x.cloth(0));
        due.sentence("11 cloth: NOTHING (STATE behind NOTHING)");
        due.found("cloth(3), missing", NOTHING, EdgesTextsTest::three, x -> x.cloth(3));
        due.found("cloth(0), missing, no CLOTH yet", NOTHING, SewnAhead::new, x -> x.cloth(0));
    }
}
