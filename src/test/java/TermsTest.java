/** "Terms", ahead of its part 1 and behind its part 3: numbers, positions, and calls that are refused. */
final class TermsTest {
    private static final int LEAST = Integer.MIN_VALUE;
    private static final int MOST = Integer.MAX_VALUE;
    // Written so that nothing wraps around in them.
    private static final String LEAST_TEXT = "-32768 * 65536";
    private static final String MOST_TEXT = "32767 * 65536 + 65535";

    private TermsTest() {
    }

    public static void main(String[] args) {
        termsSumsWrapAround();
        termsDifferencesWrapAround();
        termsProductsWrapAround();
        termsMinusInFrontWrapsAround();
        termsQuotientsAreCutTowardsZero();
        termsQuotientWithZeroOnTheRightSide();
        termsLeastNumberByMinusOne();
        termsComparisonsAreOfWholeNumbers();
        termsPositionsAreCountedFromZeroInBytes();
        termsRefusedCallChangesNothing();
        termsRefusedCallLeavesTheTape();
        termsFirstNamedExceptionIsThrown();
        Check.end();
    }

    private static String text(int number) {
        String sign = number < 0 ? "-" : "";
        long size = Math.abs((long) number);
        return sign + size / 65536 + " * 65536 " + (number < 0 ? "- " : "+ ") + size % 65536;
    }

    /** Looks at what a sum tells by its sign, too: so a sum of more than 32 bits is found out. */
    private static void value(String sum, int due) {
        PeriscopeTrain x = Check.train("mirror a clarity 50 offset 0; shake a by 1 when " + sum + " = " + text(due)
                + "; shake a by 2 when " + sum + " < 0; shake a by 4 when " + sum + " > 0;");
        x.passMinutes(1);
        Check.same(sum, x.offsetOf(0), 1 + (due < 0 ? 2 : 0) + (due > 0 ? 4 : 0));
    }

    private static void test(String test, boolean due) {
        PeriscopeTrain x = Check.train("mirror a clarity 50 offset 0; shake a by 1 when " + test + ";");
        x.passMinutes(1);
        Check.same(test, x.offsetOf(0), due ? 1 : 0);
    }

    private static void termsSumsWrapAround() {
        value("32767 * 65536 + 65534", MOST - 1);
        value("32767 * 65536 + 65535", MOST);
        value("32767 * 65536 + 65535 + 1", LEAST);
        value("32767 * 65536 + 65535 + 2", LEAST + 1);
        value(LEAST_TEXT + " + -1", MOST);
        value(LEAST_TEXT + " + -32768 * 65536", 0);
        value(MOST_TEXT + " + 32767 * 65536 + 65535", -2);
    }

    private static void termsDifferencesWrapAround() {
        value("-32767 * 65536 - 65535", LEAST + 1);
        value("-32767 * 65536 - 65535 - 1", LEAST);
        value("-32767 * 65536 - 65535 - 2", MOST);
        value("0 - (" + LEAST_TEXT + ")", LEAST);
        value("1 - (" + LEAST_TEXT + ")", LEAST + 1);
        value("0 - 1 - (" + LEAST_TEXT + ")", MOST);
    }

    private static void termsProductsWrapAround() {
        value("46340 * 46340", 2147395600);
        value("46341 * 46341", -2147479015);
        value("32768 * 65535", 2147450880);
        value("32768 * 65536", LEAST);
        value("-32768 * 65536", LEAST);
        value("-32768 * 65537", 2147450880);
        value("65536 * 65535", -65536);
        value("65536 * 65536", 0);
        value("999999 * 999999", 999999 * 999999);
    }

    private static void termsMinusInFrontWrapsAround() {
        value("-(" + MOST_TEXT + ")", LEAST + 1);
        value("-(" + LEAST_TEXT + " + 1)", MOST);
        value("-(" + LEAST_TEXT + ")", LEAST);
        value("-0", 0);
    }

    private static void termsQuotientsAreCutTowardsZero() {
        value("7 / 2", 3);
        value("-7 / 2", -3);
        value("7 / -2", -3);
        value("-7 / -2", 3);
        value("8 / 2", 4);
        value("-8 / 2", -4);
        value("99 / 100", 0);
        value("-99 / 100", 0);
        value("100 / 100", 1);
        value("-100 / 100", -1);
        value("0 / 5", 0);
    }

    private static void termsQuotientWithZeroOnTheRightSide() {
        value("7 / 1", 7);
        value("7 / 0", 0);
        value("7 / -1", -7);
        value("-7 / 0", 0);
        value("0 / 0", 0);
        value("7 / -0", 0);
        value("7 / (3 - 3) + 5", 5);
        value("7 / jobs", 0);
        value(LEAST_TEXT + " / 0", 0);
    }

    private static void termsLeastNumberByMinusOne() {
        value(LEAST_TEXT + " / -1", LEAST);
        value("(" + LEAST_TEXT + " + 1) / -1", MOST);
        value(LEAST_TEXT + " / 1", LEAST);
        value(LEAST_TEXT + " / -2", 1073741824);
        value("(" + MOST_TEXT + ") / -1", LEAST + 1);
    }

    private static void termsComparisonsAreOfWholeNumbers() {
        test(LEAST_TEXT + " < " + MOST_TEXT, true);
        test(LEAST_TEXT + " <= " + MOST_TEXT, true);
        test(LEAST_TEXT + " > " + MOST_TEXT, false);
        test(LEAST_TEXT + " >= " + MOST_TEXT, false);
        test(LEAST_TEXT + " = " + MOST_TEXT, false);
        test("min(" + LEAST_TEXT + ", " + MOST_TEXT + ") = " + LEAST_TEXT, true);
        test("max(" + LEAST_TEXT + ", " + MOST_TEXT + ") = " + MOST_TEXT, true);
        test("-1 < 0", true);
        test("0 < 0", false);
        test("1 < 0", false);
        test("-1 <= 0", true);
        test("0 <= 0", true);
        test("1 <= 0", false);
        test("1 > 0", true);
        test("0 > 0", false);
        test("-1 > 0", false);
        test("1 >= 0", true);
        test("0 >= 0", true);
        test("-1 >= 0", false);
        test("0 = 0", true);
        test("-1 = 0", false);
        test("1 = 0", false);
    }

    private static void termsPositionsAreCountedFromZeroInBytes() {
        position("?", 0);
        position(" ?", 1);
        position("\n?", 1);
        position("\n \n?", 3);
        position("width 5;?", 8);
        position("width 5 ;\n?", 10);
        // Two bytes that are one letter elsewhere: the first one is wrong.
        position("width\u00c3\u00a4", 5);
        position(" \u00e2\u0082\u00ac", 1);
    }

    private static void position(String tape, int due) {
        PeriscopeTrain x = new PeriscopeTrain();
        Check.same("teach of " + tape, Check.tell(x, tape), 1);
        Check.same("errorAt of " + tape, x.errorAt(), due);
    }

    /** A train in the midst of all: a job at work, others that wait, an error, bytes on the tape. */
    private static PeriscopeTrain busy() {
        PeriscopeTrain x = Check.train("mirror a clarity 70 offset 4; mirror b clarity 88 offset -9;"
                + "mirror c clarity 99 offset 12; width 50; limit 4000; dust a by 1; shake b by 1 when minute > 3;"
                + "align c when tilt of c > 30; clean b when not seen; replace a when best of b < 99;");
        Check.same("teach of an error", Check.tell(x, "clean nothing;"), 3);
        x.moveMirror(2, 0);
        x.orderJob(0, 0);
        x.orderJob(1, 1);
        x.orderJob(2, 0);
        x.passMinutes(2);
        Check.write(x, "mirror z clarity 12 offset 13; width 7; clean z; ?");
        return x;
    }

    private static void termsRefusedCallChangesNothing() {
        PeriscopeTrain x = busy();
        PeriscopeTrain y = busy();
        Check.refuses("trim", x, Check.ARGUMENT, () -> x.trim(x.tapeBytes() + 1));
        Check.refuses("trim", x, Check.ARGUMENT, () -> x.trim(-1));
        Check.refuses("clarityOf", x, Check.OUT, () -> x.clarityOf(3));
        Check.refuses("bestClarityOf", x, Check.OUT, () -> x.bestClarityOf(3));
        Check.refuses("offsetOf", x, Check.OUT, () -> x.offsetOf(3));
        Check.refuses("placeOf", x, Check.OUT, () -> x.placeOf(3));
        Check.refuses("lightBehind", x, Check.OUT, () -> x.lightBehind(3));
        Check.refuses("lostAt", x, Check.OUT, () -> x.lostAt(3));
        Check.refuses("tiltBehind", x, Check.OUT, () -> x.tiltBehind(3));
        Check.refuses("isCovered", x, Check.OUT, () -> x.isCovered(3));
        Check.refuses("mirrorAt", x, Check.OUT, () -> x.mirrorAt(3));
        Check.refuses("kindOfJob", x, Check.OUT, () -> x.kindOfJob(x.jobs()));
        Check.refuses("mirrorOfJob", x, Check.OUT, () -> x.mirrorOfJob(x.jobs()));
        Check.refuses("orderJob", x, Check.OUT, () -> x.orderJob(3, 0));
        Check.refuses("orderJob", x, Check.ARGUMENT, () -> x.orderJob(0, 3));
        Check.refuses("orderJob", x, Check.STATE, () -> x.orderJob(0, 0));
        Check.refuses("cancelJob", x, Check.OUT, () -> x.cancelJob(x.jobs()));
        Check.refuses("cancelJob", x, Check.OUT, () -> x.cancelJob(-1));
        Check.refuses("turnMirror", x, Check.OUT, () -> x.turnMirror(3, 0));
        Check.refuses("turnMirror", x, Check.ARGUMENT, () -> x.turnMirror(0, 91));
        Check.refuses("dustMirror", x, Check.OUT, () -> x.dustMirror(3, 1));
        Check.refuses("dustMirror", x, Check.ARGUMENT, () -> x.dustMirror(0, 101));
        Check.refuses("moveMirror", x, Check.OUT, () -> x.moveMirror(3, 0));
        Check.refuses("moveMirror", x, Check.OUT, () -> x.moveMirror(0, 3));
        Check.refuses("passMinutes", x, Check.ARGUMENT, () -> x.passMinutes(0));
        Check.refuses("passMinutes", x, Check.ARGUMENT, () -> x.passMinutes(101));
        Check.refuses("lightAfter", x, Check.ARGUMENT, () -> x.lightAfter(101));
        Check.refuses("minutesUntilDone", x, Check.OUT, () -> x.minutesUntilDone(x.jobs()));
        Check.refuses("bestOffset", x, Check.OUT, () -> x.bestOffset(3));
        Check.sameFromNowOn("behind refused calls", x, y);
    }

    private static void termsRefusedCallLeavesTheTape() {
        PeriscopeTrain x = new PeriscopeTrain();
        StringBuilder text = new StringBuilder("width 7; limit 9");
        while (text.length() < 1990) {
            text.append(' ');
        }
        Check.write(x, text.substring(0, 1980));
        x.feed(0x20202020, 0x20202020, 0x3b202020, 0x20202020, 0x20202020);
        Check.refuses("feed of a full tape", x, Check.STATE, () -> x.feed(0x3f3f3f3f, 0x3f3f3f3f, 1, 2, 3));
        Check.refuses("trim of a full tape", x, Check.ARGUMENT, () -> x.trim(2001));
        x.trim(1989);
        Check.refuses("feed of an almost full tape", x, Check.STATE, () -> x.feed(0x3f3f3f3f, 0x3f3f3f3f, 1, 2, 3));
        Check.same("tapeBytes", x.tapeBytes(), 1989);
        Check.same("teach", x.teach(), 0);
        PeriscopeTrain none = new PeriscopeTrain();
        Check.refuses("worstMirror of none", none, Check.STATE, () -> none.worstMirror());
        Check.sameFromNowOn("behind a refused worstMirror", none, new PeriscopeTrain());
    }

    private static void termsFirstNamedExceptionIsThrown() {
        PeriscopeTrain x = Check.train("mirror a clarity 50 offset 0; mirror b clarity 50 offset 0;"
                + "mirror c clarity 50 offset 0; mirror d clarity 50 offset 0; mirror e clarity 50 offset 0;");
        Check.refuses("no mirror, no kind", x, Check.OUT, () -> x.orderJob(5, 3));
        Check.refuses("no mirror, no kind", x, Check.OUT, () -> x.orderJob(-1, -1));
        for (int i = 0; i < 12; i++) {
            x.orderJob(i / 3, i % 3);
        }
        Check.refuses("no mirror, no kind, 12 jobs", x, Check.OUT, () -> x.orderJob(5, 3));
        Check.refuses("no mirror, 12 jobs", x, Check.OUT, () -> x.orderJob(5, 0));
        Check.refuses("no kind, 12 jobs", x, Check.ARGUMENT, () -> x.orderJob(4, 3));
        Check.refuses("no kind, 12 jobs", x, Check.ARGUMENT, () -> x.orderJob(0, -1));
        Check.refuses("12 jobs", x, Check.STATE, () -> x.orderJob(4, 0));
        Check.refuses("12 jobs, and the same", x, Check.STATE, () -> x.orderJob(0, 0));
        Check.refuses("turnMirror of no mirror to no offset", x, Check.OUT, () -> x.turnMirror(5, 91));
        Check.refuses("turnMirror of no mirror to no offset", x, Check.OUT, () -> x.turnMirror(-1, -91));
        Check.refuses("dustMirror of no mirror by no dust", x, Check.OUT, () -> x.dustMirror(5, 101));
        Check.refuses("dustMirror of no mirror by no dust", x, Check.OUT, () -> x.dustMirror(-1, -1));
        Check.refuses("moveMirror of no mirror to no place", x, Check.OUT, () -> x.moveMirror(5, 5));
        Check.refuses("moveMirror of no mirror to no place", x, Check.OUT, () -> x.moveMirror(-1, -1));
    }
}
