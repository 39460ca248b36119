/** "Terms", "3. Jobs": the queue, the work at the place 0, and what goes on in a minute. */
final class TermsJobsTest {
    private static final String A = "mirror a clarity 50 offset 3;";
    private static final int CLEAN = 0;
    private static final int ALIGN = 1;
    private static final int REPLACE = 2;

    private TermsJobsTest() {
    }

    public static void main(String[] args) {
        terms3KindsOfJobs();
        terms3QueueOf12ByOrders();
        terms3QueueOf12ByHand();
        terms3QueueOf12AndAJobDoneInTheMinute();
        terms3SameJobOrderedTwice();
        terms3SameJobThatBegan();
        terms3JobAtThePlace0();
        terms3MinutesToClean();
        terms3MinutesToAlign();
        terms3MinutesToReplace();
        terms3MinutesAreToldAsAJobBegins();
        terms3CleaningToTheBestClarity();
        terms3BestClarityAtLeast0();
        terms3Aligning();
        terms3Replacing();
        terms3ShakeHeldAt90();
        terms3ShakeDoesNotWrapAround();
        terms3DustHeldAt0();
        terms3DustHeldAtTheBestClarity();
        terms3DustOf0();
        terms3DustDoesNotWrapAround();
        terms3TestAsItComesToItsTurn();
        terms3OrdersAheadOfTheCrewAheadOfTheMinute();
        terms3WordsOfSums();
        terms3SeenAndWaits();
        terms3AndOrAndNot();
        Check.end();
    }

    private static String mirrors(int count) {
        StringBuilder text = new StringBuilder();
        for (int i = 0; i < count; i++) {
            text.append("mirror m").append(i).append(" clarity 50 offset 3;");
        }
        return text.toString();
    }

    private static void queue(String what, PeriscopeTrain x, int... kindsAndMirrors) {
        Check.same("jobs " + what, x.jobs(), kindsAndMirrors.length / 2);
        for (int i = 0; i < kindsAndMirrors.length / 2 && i < x.jobs(); i++) {
            Check.same("kindOfJob " + i + " " + what, x.kindOfJob(i), kindsAndMirrors[2 * i]);
            Check.same("mirrorOfJob " + i + " " + what, x.mirrorOfJob(i), kindsAndMirrors[2 * i + 1]);
        }
    }

    private static void mirror(String what, PeriscopeTrain x, int mirror, int clarity, int best, int offset) {
        Check.same("clarityOf " + what, x.clarityOf(mirror), clarity);
        Check.same("bestClarityOf " + what, x.bestClarityOf(mirror), best);
        Check.same("offsetOf " + what, x.offsetOf(mirror), offset);
    }

    private static void terms3KindsOfJobs() {
        PeriscopeTrain x = Check.train(mirrors(2) + "align m1; replace m0; clean m1;");
        x.passMinutes(1);
        // The alignment of 3 was done in this minute.
        queue("by orders", x, REPLACE, 0, CLEAN, 1);
        mirror("that was aligned", x, 1, 50, 100, 0);
        x = Check.train(mirrors(2));
        x.orderJob(1, ALIGN);
        x.orderJob(0, REPLACE);
        x.orderJob(1, CLEAN);
        queue("by hand", x, ALIGN, 1, REPLACE, 0, CLEAN, 1);
    }

    private static void terms3QueueOf12ByOrders() {
        StringBuilder orders = new StringBuilder();
        for (int i = 0; i < 10; i++) {
            orders.append("replace m").append(i).append(';');
        }
        PeriscopeTrain x = Check.train(mirrors(10) + orders + "clean m0; shake m0 by 1;");
        x.passMinutes(1);
        Check.same("jobs with 11", x.jobs(), 11);
        x = Check.train(mirrors(10) + orders + "clean m0; clean m1; shake m0 by 1;");
        x.passMinutes(1);
        Check.same("jobs with 12", x.jobs(), 12);
        Check.same("the last one", x.mirrorOfJob(11), 1);
        x = Check.train(mirrors(10) + orders + "clean m0; clean m1; clean m2; shake m0 by 1;");
        x.passMinutes(1);
        Check.same("jobs with 13 ordered", x.jobs(), 12);
        Check.same("the last one", x.mirrorOfJob(11), 1);
        // The order that finds no place is passed over, and those behind it are not.
        Check.same("offsetOf", x.offsetOf(0), 4);
    }

    private static void terms3QueueOf12ByHand() {
        PeriscopeTrain x = Check.train(mirrors(5));
        for (int i = 0; i < 12; i++) {
            Check.same("orderJob " + i, x.orderJob(i / 3, i % 3), i + 1);
        }
        Check.refuses("orderJob 13", x, Check.STATE, () -> x.orderJob(4, CLEAN));
        // One that works counts among the 12.
        x.passMinutes(1);
        Check.refuses("orderJob 13 at work", x, Check.STATE, () -> x.orderJob(4, CLEAN));
        x.cancelJob(3);
        Check.same("orderJob with 11", x.orderJob(4, CLEAN), 12);
        Check.same("the last one", x.mirrorOfJob(11), 4);
        Check.refuses("orderJob 13 again", x, Check.STATE, () -> x.orderJob(4, ALIGN));
    }

    private static void terms3QueueOf12AndAJobDoneInTheMinute() {
        PeriscopeTrain x = Check.train(mirrors(5) + "clean m4;");
        x.orderJob(0, ALIGN);
        x.orderJob(0, CLEAN);
        x.orderJob(0, REPLACE);
        for (int i = 3; i < 12; i++) {
            x.orderJob(i / 3, i % 3);
        }
        Check.same("jobs", x.jobs(), 12);
        // The order comes while 12 are there; the alignment is done only behind it.
        Check.same("passMinutes", x.passMinutes(1), 1);
        Check.same("jobs with one done", x.jobs(), 11);
        x.passMinutes(1);
        Check.same("jobs in the next minute", x.jobs(), 12);
        Check.same("the last one", x.mirrorOfJob(11), 4);
    }

    private static void terms3SameJobOrderedTwice() {
        PeriscopeTrain x = Check.train(mirrors(2) + "replace m0; clean m1; replace m0; clean m1; clean m0; replace m1;");
        x.passMinutes(1);
        queue("ordered twice", x, REPLACE, 0, CLEAN, 1, CLEAN, 0, REPLACE, 1);
        x.passMinutes(1);
        queue("ordered twice in the next minute", x, REPLACE, 0, CLEAN, 1, CLEAN, 0, REPLACE, 1);
        PeriscopeTrain y = Check.train(mirrors(2));
        Check.same("orderJob", y.orderJob(0, CLEAN), 1);
        Check.refuses("the same", y, Check.STATE, () -> y.orderJob(0, CLEAN));
        Check.same("another kind", y.orderJob(0, ALIGN), 2);
        Check.same("another mirror", y.orderJob(1, CLEAN), 3);
        Check.refuses("the same as the last one", y, Check.STATE, () -> y.orderJob(1, CLEAN));
        Check.refuses("the same as the middle one", y, Check.STATE, () -> y.orderJob(0, ALIGN));
        y.cancelJob(1);
        Check.same("the same as one cancelled", y.orderJob(0, ALIGN), 3);
        queue("by hand", y, CLEAN, 0, CLEAN, 1, ALIGN, 0);
    }

    private static void terms3SameJobThatBegan() {
        // Cleaning at 50 takes 6 minutes; in all of them the job is in the queue as the order comes.
        PeriscopeTrain x = Check.train(A + "clean a;");
        for (int minute = 1; minute <= 5; minute++) {
            Check.same("passMinutes", x.passMinutes(1), 0);
            queue("at work", x, CLEAN, 0);
            Check.same("minutesToGo", x.minutesToGo(), 6 - minute);
            Check.refuses("orderJob of it", x, Check.STATE, () -> x.orderJob(0, CLEAN));
        }
        Check.same("passMinutes", x.passMinutes(1), 1);
        queue("done", x);
        Check.same("orderJob of one that is done", x.orderJob(0, CLEAN), 1);
        // The clarity is 100 now, so a minute is enough.
        Check.same("passMinutes", x.passMinutes(1), 1);
        queue("done again", x);
    }

    private static void terms3JobAtThePlace0() {
        PeriscopeTrain x = Check.train(mirrors(3));
        Check.same("passMinutes without jobs", x.passMinutes(10), 0);
        x.orderJob(1, ALIGN);
        x.orderJob(2, CLEAN);
        x.orderJob(0, ALIGN);
        Check.same("minutesToGo ahead of the beginning", x.minutesToGo(), 0);
        // One job a minute at most, though two could be done in one each.
        Check.same("passMinutes", x.passMinutes(1), 1);
        queue("with the first one done", x, CLEAN, 2, ALIGN, 0);
        Check.same("minutesToGo of the next", x.minutesToGo(), 0);
        x.passMinutes(1);
        Check.same("minutesToGo", x.minutesToGo(), 5);
        // A cancelled job takes its minutes along; the next one begins anew.
        x.cancelJob(0);
        queue("with one cancelled", x, ALIGN, 0);
        Check.same("minutesToGo", x.minutesToGo(), 0);
        x.orderJob(2, REPLACE);
        Check.same("passMinutes", x.passMinutes(1), 1);
        Check.same("passMinutes", x.passMinutes(19), 0);
        Check.same("minutesToGo", x.minutesToGo(), 1);
        Check.same("passMinutes", x.passMinutes(1), 1);
        Check.same("jobsDone", x.jobsDone(), 3);
    }

    private static void takes(int kind, int clarity, int offset, int minutes) {
        PeriscopeTrain x = Check.train("mirror a clarity " + clarity + " offset 0;");
        x.turnMirror(0, offset);
        x.orderJob(0, kind);
        String what = "of kind " + kind + " at " + clarity + " and " + offset;
        Check.same("minutesUntilDone " + what, x.minutesUntilDone(0), minutes);
        for (int minute = 1; minute < minutes; minute++) {
            Check.same("passMinutes " + what, x.passMinutes(1), 0);
            Check.same("minutesToGo " + what, x.minutesToGo(), minutes - minute);
            Check.holds("isCovered " + what, x.isCovered(0));
        }
        Check.same("passMinutes " + what, x.passMinutes(1), 1);
        Check.same("minutesToGo " + what, x.minutesToGo(), 0);
        Check.fails("isCovered " + what, x.isCovered(0));
    }

    private static void terms3MinutesToClean() {
        for (int clarity = 0; clarity <= 100; clarity++) {
            takes(CLEAN, clarity, 50, 1 + (100 - clarity) / 10);
        }
        takes(CLEAN, 100, 0, 1);
        takes(CLEAN, 91, 0, 1);
        takes(CLEAN, 90, 0, 2);
        takes(CLEAN, 1, 0, 10);
        takes(CLEAN, 0, 0, 11);
    }

    private static void terms3MinutesToAlign() {
        takes(ALIGN, 0, 0, 1);
        takes(ALIGN, 0, 4, 1);
        takes(ALIGN, 0, 5, 2);
        takes(ALIGN, 0, 89, 18);
        takes(ALIGN, 0, 90, 19);
        takes(ALIGN, 0, -4, 1);
        takes(ALIGN, 0, -5, 2);
        takes(ALIGN, 0, -89, 18);
        takes(ALIGN, 0, -90, 19);
    }

    private static void terms3MinutesToReplace() {
        takes(REPLACE, 100, 0, 20);
        takes(REPLACE, 0, 90, 20);
        takes(REPLACE, 50, -90, 20);
    }

    private static void terms3MinutesAreToldAsAJobBegins() {
        // Not as it is ordered, and not by what comes later.
        PeriscopeTrain x = Check.train(A);
        x.orderJob(0, CLEAN);
        x.dustMirror(0, 40);
        x.passMinutes(1);
        Check.same("minutesToGo at 10", x.minutesToGo(), 9);
        x.dustMirror(0, 10);
        x.passMinutes(1);
        Check.same("minutesToGo at 0", x.minutesToGo(), 8);
        x = Check.train(A);
        x.orderJob(0, ALIGN);
        x.turnMirror(0, -45);
        x.passMinutes(1);
        Check.same("minutesToGo at -45", x.minutesToGo(), 9);
        x.turnMirror(0, 0);
        x.passMinutes(1);
        Check.same("minutesToGo at 0", x.minutesToGo(), 8);
        // By what the orders of the minute left, in which it begins.
        x = Check.train(A + "align a; shake a by 40;");
        x.passMinutes(1);
        Check.same("minutesToGo behind a shake", x.minutesToGo(), 8);
        x = Check.train(A + "clean a; dust a by 30;");
        x.passMinutes(1);
        Check.same("minutesToGo behind a dust", x.minutesToGo(), 8);
    }

    private static void terms3CleaningToTheBestClarity() {
        // The clarity is less than the best one, then equal to it, then greater.
        PeriscopeTrain x = Check.train("mirror a clarity 99 offset 7;");
        clean(x);
        mirror("cleaned", x, 0, 100, 99, 7);
        x.dustMirror(0, 1);
        clean(x);
        mirror("cleaned at its best", x, 0, 99, 98, 7);
        clean(x);
        mirror("cleaned beyond its best", x, 0, 99, 97, 7);
        x.dustMirror(0, 3);
        mirror("of less than its best", x, 0, 96, 97, 7);
        clean(x);
        mirror("cleaned below its best", x, 0, 97, 96, 7);
    }

    private static void clean(PeriscopeTrain x) {
        x.orderJob(0, CLEAN);
        Check.same("passMinutes of a cleaning", x.passMinutes(1), 1);
    }

    private static void terms3BestClarityAtLeast0() {
        PeriscopeTrain x = Check.train("mirror a clarity 100 offset 0; clean a;");
        x.passMinutes(99);
        mirror("cleaned 99 times", x, 0, 100, 1, 0);
        x.passMinutes(1);
        mirror("cleaned 100 times", x, 0, 100, 0, 0);
        x.passMinutes(1);
        mirror("cleaned 101 times", x, 0, 100, 0, 0);
        x.dustMirror(0, 100);
        Check.same("passMinutes", x.passMinutes(11), 1);
        mirror("dusty, with a best clarity of 0", x, 0, 0, 0, 0);
    }

    private static void terms3Aligning() {
        for (int offset : new int[] {-90, -1, 0, 1, 90}) {
            PeriscopeTrain x = Check.train(A);
            x.turnMirror(0, offset);
            x.orderJob(0, ALIGN);
            x.passMinutes(19);
            mirror("aligned", x, 0, 50, 100, 0);
            Check.same("jobsDone", x.jobsDone(), 1);
        }
    }

    private static void terms3Replacing() {
        PeriscopeTrain x = Check.train("mirror a clarity 100 offset -90; clean a when minute < 5;");
        x.passMinutes(5);
        mirror("cleaned", x, 0, 100, 95, -90);
        x.dustMirror(0, 100);
        x.orderJob(0, REPLACE);
        x.passMinutes(19);
        mirror("at work", x, 0, 0, 95, -90);
        x.passMinutes(1);
        mirror("replaced", x, 0, 100, 100, 0);
        x = Check.train("mirror a clarity 100 offset 0; clean a when minute < 100;");
        x.passMinutes(100);
        mirror("worn", x, 0, 100, 0, 0);
        x.orderJob(0, REPLACE);
        x.passMinutes(20);
        mirror("replaced", x, 0, 100, 100, 0);
    }

    private static void shake(int offset, String sum, int due) {
        PeriscopeTrain x = Check.train("mirror a clarity 50 offset 0; shake a by " + sum + ";");
        x.turnMirror(0, offset);
        x.passMinutes(1);
        Check.same("offsetOf " + offset + " shaken by " + sum, x.offsetOf(0), due);
    }

    private static void terms3ShakeHeldAt90() {
        shake(0, "0", 0);
        shake(5, "7", 12);
        shake(5, "-7", -2);
        shake(0, "89", 89);
        shake(0, "90", 90);
        shake(0, "91", 90);
        shake(0, "-89", -89);
        shake(0, "-90", -90);
        shake(0, "-91", -90);
        shake(90, "-180", -90);
        shake(90, "-179", -89);
        shake(90, "-181", -90);
        shake(-90, "180", 90);
        shake(-90, "179", 89);
        shake(90, "1", 90);
        shake(-90, "-1", -90);
        shake(90, "-1", 89);
        shake(-90, "1", -89);
        shake(0, "999999", 90);
        shake(0, "-999999", -90);
    }

    private static void terms3ShakeDoesNotWrapAround() {
        shake(1, "32767 * 65536 + 65535", 90);
        shake(90, "32767 * 65536 + 65535", 90);
        shake(-1, "-32768 * 65536", -90);
        shake(-90, "-32768 * 65536", -90);
        // The sum itself wraps around, though.
        shake(0, "32767 * 65536 + 65535 + 1", -90);
        shake(0, "-32768 * 65536 - 1", 90);
    }

    private static void dust(int clarity, String sum, int due) {
        PeriscopeTrain x = Check.train("mirror a clarity " + clarity + " offset 0; dust a by " + sum + ";");
        x.passMinutes(1);
        Check.same("clarityOf " + clarity + " dusted by " + sum, x.clarityOf(0), due);
        Check.same("bestClarityOf", x.bestClarityOf(0), 100);
    }

    private static void terms3DustHeldAt0() {
        dust(50, "1", 49);
        dust(50, "49", 1);
        dust(50, "50", 0);
        dust(50, "51", 0);
        dust(0, "0", 0);
        dust(0, "1", 0);
        dust(100, "100", 0);
        dust(100, "101", 0);
        dust(100, "99", 1);
        dust(100, "999999", 0);
    }

    private static void terms3DustHeldAtTheBestClarity() {
        dust(50, "-49", 99);
        dust(50, "-50", 100);
        dust(50, "-51", 100);
        dust(100, "-1", 100);
        dust(0, "-999999", 100);
        // With a best clarity of 97.
        for (int more = 45; more <= 50; more++) {
            PeriscopeTrain x = Check.train("mirror a clarity 100 offset 0; clean a when minute < 3;"
                    + "dust a by -" + more + " when minute = 4;");
            x.passMinutes(4);
            x.dustMirror(0, 50);
            mirror("ahead of it", x, 0, 50, 97, 0);
            x.passMinutes(1);
            Check.same("clarityOf held at 97", x.clarityOf(0), Math.min(97, 50 + more));
        }
    }

    private static void terms3DustOf0() {
        PeriscopeTrain x = Check.train("mirror a clarity 98 offset 0; mirror b clarity 100 offset 0;"
                + "dust a by 0 when minute > 0;");
        x.orderJob(0, CLEAN);
        x.orderJob(1, CLEAN);
        x.passMinutes(1);
        mirror("greater than the best behind a cleaning", x, 0, 100, 99, 0);
        x.passMinutes(1);
        mirror("1 less by a dust of 0", x, 0, 99, 99, 0);
        mirror("without a dust", x, 1, 100, 99, 0);
        x.passMinutes(1);
        mirror("no less by the next dust of 0", x, 0, 99, 99, 0);
        x.dustMirror(0, 9);
        x.passMinutes(1);
        mirror("less than the best, by a dust of 0", x, 0, 90, 99, 0);
        // Dust of 1 behind a cleaning: 99 of 99; without the hold it is the same.
        x = Check.train("mirror a clarity 98 offset 0; clean a when minute = 0; dust a by 1 when minute = 1;");
        x.passMinutes(2);
        mirror("by a dust of 1", x, 0, 99, 99, 0);
        // If it is cleaned more often, the hold is farther below.
        x = Check.train("mirror a clarity 98 offset 0; clean a when minute < 4; dust a by 0 when minute = 4;");
        x.passMinutes(4);
        mirror("cleaned four times", x, 0, 100, 96, 0);
        x.passMinutes(1);
        mirror("held at 96", x, 0, 96, 96, 0);
    }

    private static void terms3DustDoesNotWrapAround() {
        dust(50, "32767 * 65536 + 65535", 0);
        dust(0, "32767 * 65536 + 65535", 0);
        dust(0, "-32768 * 65536", 100);
        dust(50, "-32768 * 65536", 100);
        dust(50, "32767 * 65536 + 65535 + 1", 100);
    }

    private static void terms3TestAsItComesToItsTurn() {
        // Each order changes what the next one asks.
        PeriscopeTrain x = Check.train("mirror a clarity 100 offset 0; mirror b clarity 100 offset 0;"
                + "shake a by 31 when seen; dust b by 1 when seen; dust b by 2 when not seen;"
                + "shake a by -31 when not seen; dust b by 4 when seen; dust b by 8 when not seen;"
                + "clean b; dust b by 16 when waits b; dust b by 32 when jobs = 1;");
        x.passMinutes(1);
        Check.same("clarityOf", x.clarityOf(1), 100 - 2 - 4 - 16 - 32);
        Check.same("offsetOf", x.offsetOf(0), 0);
        // Without a test an order is always carried out.
        x = Check.train(A + "shake a by 1;");
        x.passMinutes(100);
        Check.same("offsetOf", x.offsetOf(0), 90);
        x = Check.train(A + "shake a by 1 when 1 < 0; dust a by 1 when 1 < 0; clean a when 1 < 0; align a when 1 < 0;"
                + "replace a when 1 < 0;");
        x.passMinutes(100);
        mirror("whose orders do not hold", x, 0, 50, 100, 3);
        queue("whose orders do not hold", x);
    }

    private static void terms3OrdersAheadOfTheCrewAheadOfTheMinute() {
        // A job that was ordered in a minute begins in it.
        PeriscopeTrain x = Check.train(A + "replace a when minute = 2;");
        x.passMinutes(2);
        queue("ahead of the order", x);
        x.passMinutes(1);
        queue("in the minute of the order", x, REPLACE, 0);
        Check.same("minutesToGo", x.minutesToGo(), 19);
        // What the crew does is there for the orders of the next minute only.
        x = Check.train(A + "align a; dust a by 1 when offset of a = 3; dust a by 10 when offset of a = 0;");
        Check.same("passMinutes", x.passMinutes(1), 1);
        mirror("in the minute of the work", x, 0, 49, 100, 0);
        x.passMinutes(1);
        mirror("in the next minute", x, 0, 39, 100, 0);
        // The first minute is 0, and is counted behind its orders.
        x = Check.train(A + "shake a by 1 when minute = 0; shake a by 10 when minute = 1; dust a by minute;");
        x.passMinutes(1);
        mirror("behind the minute 0", x, 0, 50, 100, 4);
        Check.same("minutes", x.minutes(), 1);
        x.passMinutes(1);
        mirror("behind the minute 1", x, 0, 49, 100, 14);
        Check.same("minutes", x.minutes(), 2);
    }

    /** What a sum tells in the first minute of a train of three mirrors, with two jobs that wait. */
    private static void word(String sum, int due) {
        PeriscopeTrain x = Check.train("mirror a clarity 100 offset 4; mirror b clarity 80 offset -9;"
                + "mirror c clarity 50 offset 20; limit 4000; mirror z clarity 100 offset 0;"
                + "clean c when minute = 1; align b when minute = 1; shake z by 1 when minute = 1 and " + sum + " = "
                + due + ";");
        x.orderJob(0, CLEAN);
        x.passMinutes(1);
        mirror("of the words", x, 0, 100, 99, 4);
        x.moveMirror(1, 0);
        x.passMinutes(1);
        Check.same(sum + " is " + due, x.offsetOf(3), 1);
    }

    private static void terms3WordsOfSums() {
        word("minute", 1);
        word("light", 4000);
        word("jobs", 2);
        word("offset of a", 4);
        word("offset of b", -9);
        word("clarity of a", 100);
        word("clarity of b", 80);
        word("best of a", 99);
        word("best of b", 100);
        word("lost of a", 0);
        word("lost of b", 2000);
        word("lost of c", 4000);
        // The tilt behind it, in the order of the row: b, a, c.
        word("tilt of b", -18);
        word("tilt of a", -10);
        word("tilt of c", 30);
        word("tilt of z", 30);
        word("min(jobs, minute)", 1);
        word("max(jobs, minute)", 2);
        word("min(minute, jobs)", 1);
        word("max(minute, jobs)", 2);
        word("min(-3, 3)", -3);
        word("max(-3, 3)", 3);
        word("max(3, 3)", 3);
        // Light is 0, and lost what comes to it, with a covered mirror.
        PeriscopeTrain x = Check.train("mirror a clarity 90 offset 0; mirror b clarity 80 offset 0;"
                + "shake a by 1 when light = 0 and lost of b = 9000 and lost of a = 1000 and not seen;");
        x.orderJob(1, REPLACE);
        x.passMinutes(1);
        Check.same("offsetOf ahead of the work", x.offsetOf(0), 0);
        x.passMinutes(1);
        Check.same("offsetOf at work", x.offsetOf(0), 1);
    }

    private static void holds(String test, boolean due) {
        PeriscopeTrain x = Check.train("mirror a clarity 100 offset 4; mirror b clarity 80 offset -9; limit 8000;"
                + "shake a by 1 when " + test + ";");
        x.orderJob(1, REPLACE);
        x.passMinutes(1);
        Check.same(test, x.offsetOf(0) - 4, due ? 1 : 0);
    }

    private static void terms3SeenAndWaits() {
        holds("seen", true);
        holds("not seen", false);
        holds("waits b", true);
        holds("waits a", false);
        holds("not waits a", true);
        // Waits holds for any kind, at any place, at work, too.
        PeriscopeTrain x = Check.train(mirrors(3) + "shake m0 by 1 when waits m1; dust m0 by 1 when waits m2;");
        x.orderJob(1, REPLACE);
        x.orderJob(2, ALIGN);
        x.passMinutes(20);
        mirror("with both jobs", x, 0, 30, 100, 23);
        x.passMinutes(1);
        mirror("with the second job", x, 0, 29, 100, 23);
        x.passMinutes(1);
        mirror("without jobs", x, 0, 29, 100, 23);
        // Seen holds at the limit, and not below it.
        x = Check.train("limit 5000; mirror a clarity 51 offset 0; dust a by 1; shake a by 1 when seen;");
        x.passMinutes(1);
        Check.same("offsetOf at the limit", x.offsetOf(0), 1);
        x.passMinutes(1);
        Check.same("offsetOf below the limit", x.offsetOf(0), 1);
    }

    private static void terms3AndOrAndNot() {
        String[] both = {"1 < 0", "0 < 1"};
        for (int left = 0; left < 2; left++) {
            for (int right = 0; right < 2; right++) {
                holds(both[left] + " and " + both[right], left + right == 2);
                holds(both[left] + " or " + both[right], left + right > 0);
                holds("not " + both[left] + " and " + both[right], left == 0 && right == 1);
                holds("not " + both[left] + " or " + both[right], left == 0 || right == 1);
                holds("not [" + both[left] + " or " + both[right] + "]", left + right == 0);
                holds("not [" + both[left] + " and " + both[right] + "]", left + right < 2);
                for (int third = 0; third < 2; third++) {
                    boolean a = left == 1;
                    boolean b = right == 1;
                    boolean c = third == 1;
                    String text = both[left] + " % " + both[right] + " & " + both[third];
                    holds(text.replace("%", "or").replace("&", "and"), a || b && c);
                    holds(text.replace("%", "and").replace("&", "or"), a && b || c);
                    holds("[" + both[left] + " or " + both[right] + "] and " + both[third], (a || b) && c);
                    holds(both[left] + " and [" + both[right] + " or " + both[third] + "]", a && (b || c));
                }
            }
        }
        holds("not not 0 < 1", true);
        holds("not not not 0 < 1", false);
    }
}
