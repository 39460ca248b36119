/** Promises 33 to 36, and what the orders do in a minute. */
final class MinutesTest {
    private static final String A = "mirror a clarity 50 offset 3;";
    private static final Class<IllegalArgumentException> ARGUMENT = IllegalArgumentException.class;

    private MinutesTest() {
    }

    public static void main(String[] args) {
        sums();
        wordsOfSums();
        tests();
        shaking();
        dusting();
        orderedJobs();
        oneOrderBehindTheOther();
        ordersAheadOfTheWork();
        passing();
        wrongMinutes();
        lightLater();
        seenLater();
        doneLater();
        Check.end();
    }

    /** What a sum tells, by an offset that is 0 at first; from -90 to 90. */
    private static void sum(String text, int due) {
        PeriscopeTrain x = Check.train("mirror a clarity 50 offset 0; mirror b clarity 80 offset -7; width 60;"
                + "shake a by " + text + ";");
        x.passMinutes(1);
        Check.same(text, x.offsetOf(0), due);
    }

    private static void sums() {
        sum("7", 7);
        sum("1 + 2 * 3", 7);
        sum("(1 + 2) * 3", 9);
        sum("20 - 5 - 3", 12);
        sum("80 / 8 / 2", 5);
        sum("80 / 8 * 2", 20);
        sum("7 - 8", -1);
        sum("7 / 2", 3);
        sum("-7 / 2", -3);
        sum("7 / -2", -3);
        sum("7 / 0", 0);
        sum("-7 / (3 - 3)", 0);
        sum("-7 + 3", -4);
        sum("- -7", 7);
        sum("-7 * -3", 21);
        sum("min(3, 8)", 3);
        sum("max(3, 8)", 8);
        sum("min(8, -3)", -3);
        sum("max(-8, -3)", -3);
        sum("max(min(1, 2), min(4, 3)) + 1", 4);
        // 65536 * 65536 wraps around to 0, 65536 * 32768 to the least number.
        sum("65536 * 65536 + 5", 5);
        sum("65536 * 32768 / (10000 * 10000)", -21);
        sum("65536 * 32768 / -1 / (10000 * 10000)", -21);
        sum("-(65536 * 32768) / (10000 * 10000)", -21);
        sum("(65536 * 32768 - 1) / (10000 * 10000)", 21);
        sum("(65536 * 32767 + 65535 + 1) / (10000 * 10000)", -21);
        sum("000007", 7);
    }

    private static void wordsOfSums() {
        sum("minute", 0);
        sum("light / 100", 40);
        sum("jobs", 0);
        sum("clarity of b", 80);
        sum("best of b - 50", 50);
        sum("offset of b", -7);
        sum("lost of a / 100", 50);
        sum("lost of b / 100", 10);
        sum("tilt of b", -14);
        PeriscopeTrain x = Check.train(A + "mirror b clarity 50 offset 0; shake a by minute; clean b when minute = 1;"
                + "clean a when minute = 1; dust b by jobs; shake b by best of b - 90 when minute = 2;");
        x.passMinutes(1);
        Check.same("offsetOf at minute 0", x.offsetOf(0), 3);
        Check.same("clarityOf without jobs", x.clarityOf(1), 50);
        x.passMinutes(1);
        Check.same("offsetOf at minute 1", x.offsetOf(0), 4);
        Check.same("clarityOf with two jobs", x.clarityOf(1), 48);
        x.passMinutes(1);
        Check.same("offsetOf at minute 2", x.offsetOf(0), 6);
        Check.same("offsetOf by best", x.offsetOf(1), 10);
    }

    private static void test(String text, boolean due) {
        PeriscopeTrain x = Check.train("mirror a clarity 50 offset 0; mirror b clarity 50 offset 0;"
                + "clean b; shake a by 1 when " + text + ";");
        x.passMinutes(1);
        Check.same(text, x.offsetOf(0), due ? 1 : 0);
    }

    private static void tests() {
        test("1 < 2", true);
        test("2 < 2", false);
        test("3 > 2", true);
        test("2 > 2", false);
        test("2 = 2", true);
        test("2 = 3", false);
        test("2 <= 2", true);
        test("3 <= 2", false);
        test("2 >= 2", true);
        test("1 >= 2", false);
        test("-1 < 1", true);
        for (String holding : new String[] {"1 < 2", "2 > 1", "2 = 2", "1 <= 2", "2 >= 1", "seen", "waits b"}) {
            test("not " + holding, false);
            test(holding + " and seen", true);
            test("not " + holding + " or 1 = 2", false);
        }
        test("seen", true);
        test("not seen", false);
        test("not not seen", true);
        test("waits b", true);
        test("waits a", false);
        test("1 = 1 and 1 = 1", true);
        test("1 = 1 and 1 = 2", false);
        test("1 = 2 and 1 = 1", false);
        test("1 = 2 or 1 = 1", true);
        test("1 = 1 or 1 = 2", true);
        test("1 = 2 or 1 = 2", false);
        // and binds more than or, not more than and.
        test("1 = 1 or 1 = 1 and 1 = 2", true);
        test("[1 = 1 or 1 = 1] and 1 = 2", false);
        test("1 = 2 and 1 = 2 or 1 = 1", true);
        test("1 = 2 and [1 = 2 or 1 = 1]", false);
        test("not 1 = 2 and 1 = 2", false);
        test("not [1 = 2 and 1 = 2]", true);
        test("not 1 = 1 or 1 = 1", true);
        test("not [1 = 1 or 1 = 1]", false);
        test("light = 2500 and lost of b = 2500 and jobs = 1 and minute = 0", true);
        waitsHoldsAtWork();
    }

    private static void waitsHoldsAtWork() {
        PeriscopeTrain x = Check.train(A + "shake a by 1 when waits a; dust a by 1 when not waits a;");
        x.orderJob(0, 2);
        x.passMinutes(19);
        Check.same("offsetOf with a job at work", x.offsetOf(0), 22);
        Check.same("clarityOf with a job at work", x.clarityOf(0), 50);
        x.passMinutes(2);
        Check.same("offsetOf without a job", x.offsetOf(0), 0);
        Check.same("clarityOf without a job", x.clarityOf(0), 99);
    }

    private static void shaking() {
        PeriscopeTrain x = Check.train(A + "shake a by 40;");
        x.passMinutes(2);
        Check.same("offsetOf", x.offsetOf(0), 83);
        x.passMinutes(1);
        Check.same("offsetOf at most", x.offsetOf(0), 90);
        x = Check.train(A + "shake a by -47;");
        x.passMinutes(1);
        Check.same("offsetOf", x.offsetOf(0), -44);
        x.passMinutes(1);
        Check.same("offsetOf at least", x.offsetOf(0), -90);
        // Nothing wraps around as the offset grows.
        x = Check.train(A + "shake a by 65536 * 32768 - 1;");
        x.passMinutes(1);
        Check.same("offsetOf by the most", x.offsetOf(0), 90);
        x = Check.train("mirror a clarity 50 offset -3; shake a by 65536 * 32768;");
        x.passMinutes(1);
        Check.same("offsetOf by the least", x.offsetOf(0), -90);
    }

    private static void dusting() {
        PeriscopeTrain x = Check.train(A + "dust a by 20;");
        x.passMinutes(2);
        Check.same("clarityOf", x.clarityOf(0), 10);
        x.passMinutes(1);
        Check.same("clarityOf at least", x.clarityOf(0), 0);
        x = Check.train(A + "dust a by -30;");
        x.passMinutes(1);
        Check.same("clarityOf by less than 0", x.clarityOf(0), 80);
        x.passMinutes(1);
        Check.same("clarityOf at most", x.clarityOf(0), 100);
        x = Check.train(A + "dust a by 65536 * 32768;");
        x.passMinutes(1);
        Check.same("clarityOf by the least", x.clarityOf(0), 100);
        x = Check.train(A + "dust a by 65536 * 32768 - 1;");
        x.passMinutes(1);
        Check.same("clarityOf by the most", x.clarityOf(0), 0);
        // Behind a cleaning the best clarity is 1 less than the clarity; a dust of 0 holds it there.
        x = Check.train("mirror a clarity 100 offset 0; dust a by 0 when minute = 2; dust a by -5 when minute = 3;");
        x.orderJob(0, 0);
        x.passMinutes(2);
        Check.same("clarityOf behind a cleaning", x.clarityOf(0), 100);
        x.passMinutes(1);
        Check.same("clarityOf behind a dust of 0", x.clarityOf(0), 99);
        x.passMinutes(1);
        Check.same("clarityOf held at the best", x.clarityOf(0), 99);
    }

    private static void orderedJobs() {
        PeriscopeTrain x = Check.train(A + "mirror b clarity 50 offset 9; replace b; clean a; align b; clean a;");
        x.passMinutes(1);
        Check.same("jobs", x.jobs(), 3);
        Check.same("kindOfJob", x.kindOfJob(0), 2);
        Check.same("mirrorOfJob", x.mirrorOfJob(0), 1);
        Check.same("kindOfJob", x.kindOfJob(1), 0);
        Check.same("mirrorOfJob", x.mirrorOfJob(1), 0);
        Check.same("kindOfJob", x.kindOfJob(2), 1);
        Check.same("mirrorOfJob", x.mirrorOfJob(2), 1);
        Check.same("minutesToGo", x.minutesToGo(), 19);
        x.passMinutes(1);
        Check.same("jobs that wait already", x.jobs(), 3);
        x = Check.train("mirror a clarity 1 offset 1; mirror b clarity 1 offset 1; mirror c clarity 1 offset 1;"
                + "mirror d clarity 1 offset 1; mirror e clarity 1 offset 1; replace e;");
        for (int i = 0; i < 12; i++) {
            x.orderJob(i / 3, i % 3);
        }
        x.passMinutes(10);
        Check.same("jobs of a full queue, one done", x.jobs(), 11);
        Check.same("mirrorOfJob of the last", x.mirrorOfJob(10), 3);
        x.passMinutes(1);
        Check.same("jobs with room, one done again", x.jobs(), 11);
        Check.same("mirrorOfJob of the last", x.mirrorOfJob(10), 4);
    }

    private static void oneOrderBehindTheOther() {
        // An order sees what those ahead of it did in the same minute.
        PeriscopeTrain x = Check.train("mirror a clarity 50 offset 0; mirror b clarity 50 offset 0;"
                + "shake a by 31; dust b by 1 when tilt of a = 62; clean a when lost of b = 5000;"
                + "shake b by 2 when waits a; shake b by 3 when jobs = 1; align a when light = 0 and not seen;");
        x.passMinutes(1);
        Check.same("clarityOf", x.clarityOf(1), 49);
        Check.same("offsetOf", x.offsetOf(1), 5);
        Check.same("jobs", x.jobs(), 2);
        x = Check.train("mirror a clarity 50 offset 0; dust a by 1 when offset of a > 0; shake a by 1;");
        x.passMinutes(1);
        Check.same("clarityOf ahead of the shaking", x.clarityOf(0), 50);
        x.passMinutes(1);
        Check.same("clarityOf behind the shaking", x.clarityOf(0), 49);
    }

    private static void ordersAheadOfTheWork() {
        // A job that an order tells begins in the same minute, by what the orders left.
        PeriscopeTrain x = Check.train("mirror a clarity 100 offset 0; clean a when minute = 0; dust a by 10;");
        x.passMinutes(1);
        Check.same("minutesToGo", x.minutesToGo(), 1);
        x.passMinutes(1);
        Check.same("clarityOf", x.clarityOf(0), 100);
        Check.same("jobsDone", x.jobsDone(), 1);
        // Light is that of the covered mirror as the orders are told in the next minute.
        x = Check.train("mirror a clarity 50 offset 0; shake a by 1 when light = 0 and lost of a = 10000 and not seen;");
        x.orderJob(0, 0);
        x.passMinutes(1);
        Check.same("offsetOf ahead of the work", x.offsetOf(0), 0);
        x.passMinutes(1);
        Check.same("offsetOf at work", x.offsetOf(0), 1);
    }

    private static void passing() {
        PeriscopeTrain x = Check.train("mirror a clarity 95 offset 0; clean a when minute / 3 * 3 = minute;");
        Check.same("passMinutes(1)", x.passMinutes(1), 1);
        Check.same("passMinutes(2)", x.passMinutes(2), 0);
        Check.same("passMinutes(100)", x.passMinutes(100), 34);
        Check.same("minutes", x.minutes(), 103);
        Check.same("jobsDone", x.jobsDone(), 35);
        Check.same("passMinutes(1)", x.passMinutes(1), 0);
        Check.same("jobsDone", x.jobsDone(), 35);
    }

    private static void wrongMinutes() {
        PeriscopeTrain x = Check.train(A + "shake a by 1;");
        for (int minutes : new int[] {0, -1, 101, Integer.MIN_VALUE, Integer.MAX_VALUE}) {
            Check.refuses("passMinutes of " + minutes, x, ARGUMENT, () -> x.passMinutes(minutes));
            Check.refuses("lightAfter of " + minutes, x, ARGUMENT, () -> x.lightAfter(minutes));
        }
    }

    private static void lightLater() {
        String text = "mirror a clarity 90 offset 0; mirror b clarity 80 offset 0; dust a by 1; shake b by 1;"
                + "clean a when clarity of a < 70; align b when offset of b > 20;";
        PeriscopeTrain x = Check.train(text);
        long digest = x.digest();
        for (int minutes = 1; minutes <= 100; minutes++) {
            PeriscopeTrain y = Check.train(text);
            y.passMinutes(minutes);
            Check.same("lightAfter " + minutes, x.lightAfter(minutes), y.lightAtEnd());
        }
        Check.same("digest behind lightAfter", x.digest(), digest);
        Check.same("lightAfter(1)", x.lightAfter(1), 7120);
        Check.same("lightAfter(10)", x.lightAfter(10), 6400);
        x.dustMirror(1, 80);
        Check.same("lightAfter behind dust by hand", x.lightAfter(10), 0);
    }

    private static void seenLater() {
        PeriscopeTrain x = Check.train("mirror a clarity 50 offset 0; limit 6000; dust a by -1;");
        long digest = x.digest();
        Check.same("minutesUntilSeen", x.minutesUntilSeen(), 10);
        Check.same("digest behind minutesUntilSeen", x.digest(), digest);
        x.passMinutes(9);
        Check.same("minutesUntilSeen", x.minutesUntilSeen(), 1);
        x.passMinutes(1);
        Check.same("minutesUntilSeen", x.minutesUntilSeen(), 0);
        x = Check.train("mirror a clarity 0 offset 0; limit 10000; dust a by -1;");
        Check.same("minutesUntilSeen at most", x.minutesUntilSeen(), 100);
        x = Check.train("mirror a clarity 0 offset 0; limit 10000; dust a by -1 when minute > 0;");
        Check.same("minutesUntilSeen not by then", x.minutesUntilSeen(), -1);
        x.passMinutes(1);
        Check.same("minutesUntilSeen a minute later", x.minutesUntilSeen(), 100);
        x = Check.train("mirror a clarity 0 offset 0;");
        Check.same("minutesUntilSeen never", x.minutesUntilSeen(), -1);
        // It is seen for a minute only.
        x = Check.train("mirror a clarity 100 offset 29; shake a by 2 when minute < 1; shake a by -2 when minute = 4;"
                + "shake a by 5 when minute = 5;");
        x.passMinutes(1);
        Check.same("minutesUntilSeen for a minute", x.minutesUntilSeen(), 4);
        x.orderJob(0, 0);
        x.passMinutes(1);
        Check.same("minutesUntilSeen of a job done", x.minutesUntilSeen(), 3);
    }

    private static void doneLater() {
        PeriscopeTrain x = Check.train("mirror a clarity 60 offset -12; mirror b clarity 1 offset 90;");
        x.orderJob(0, 0);
        x.orderJob(0, 1);
        x.orderJob(1, 2);
        x.orderJob(1, 0);
        long digest = x.digest();
        Check.same("minutesUntilDone 0", x.minutesUntilDone(0), 5);
        Check.same("minutesUntilDone 1", x.minutesUntilDone(1), 8);
        Check.same("minutesUntilDone 2", x.minutesUntilDone(2), 28);
        // The mirror that was replaced is cleaned in a minute.
        Check.same("minutesUntilDone 3", x.minutesUntilDone(3), 29);
        Check.same("digest behind minutesUntilDone", x.digest(), digest);
        x.passMinutes(6);
        Check.same("minutesUntilDone, at work", x.minutesUntilDone(0), 2);
        Check.same("minutesUntilDone, behind", x.minutesUntilDone(2), 23);
        PeriscopeTrain three = Check.train("mirror a clarity 0 offset 0; mirror b clarity 95 offset 0;"
                + "mirror c clarity 45 offset 0;");
        three.orderJob(2, 0);
        three.orderJob(1, 0);
        three.orderJob(0, 0);
        Check.same("minutesUntilDone of c", three.minutesUntilDone(0), 6);
        Check.same("minutesUntilDone of b", three.minutesUntilDone(1), 7);
        Check.same("minutesUntilDone of a", three.minutesUntilDone(2), 18);
        doneAtTheLatest();
    }

    /** No twelve jobs can take 300 minutes, so that no job is not done by then. */
    private static void doneAtTheLatest() {
        StringBuilder text = new StringBuilder();
        for (int i = 0; i < 10; i++) {
            text.append("mirror m").append(i).append(" clarity 0 offset 90;");
        }
        PeriscopeTrain x = Check.train(text + "shake m0 by 200; shake m1 by 200;");
        for (int i = 0; i < 10; i++) {
            x.orderJob(i, 2);
        }
        x.orderJob(0, 1);
        x.orderJob(1, 1);
        Check.same("minutesUntilDone 9", x.minutesUntilDone(9), 200);
        Check.same("minutesUntilDone 10", x.minutesUntilDone(10), 219);
        Check.same("minutesUntilDone 11", x.minutesUntilDone(11), 238);
    }
}
