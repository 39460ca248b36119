/** Promises 23 to 32: the queue of jobs, the work at them, and what is done by hand. */
final class JobsTest {
    private static final String FOUR = "mirror a clarity 60 offset -12; mirror b clarity 100 offset 0;"
            + "mirror c clarity 61 offset 90; mirror d clarity 0 offset 4;";
    private static final Class<IndexOutOfBoundsException> OUT = IndexOutOfBoundsException.class;
    private static final Class<IllegalArgumentException> ARGUMENT = IllegalArgumentException.class;
    private static final Class<IllegalStateException> STATE = IllegalStateException.class;

    private JobsTest() {
    }

    public static void main(String[] args) {
        jobsWaitInTheirOrder();
        wrongJobs();
        fullQueue();
        cleaning();
        cleaningWearsTheMirror();
        aligning();
        replacing();
        minutesOfJobs();
        oneBehindTheOther();
        cancelling();
        cancellingAtWork();
        turning();
        dusting();
        moving();
        Check.end();
    }

    private static void jobsWaitInTheirOrder() {
        PeriscopeTrain x = Check.train(FOUR);
        Check.same("jobs", x.jobs(), 0);
        Check.same("orderJob", x.orderJob(2, 1), 1);
        Check.same("orderJob", x.orderJob(2, 0), 2);
        Check.same("orderJob", x.orderJob(0, 1), 3);
        Check.same("orderJob", x.orderJob(3, 2), 4);
        Check.same("jobs", x.jobs(), 4);
        int[] kind = {1, 0, 1, 2};
        int[] mirror = {2, 2, 0, 3};
        for (int place = 0; place < 4; place++) {
            Check.same("kindOfJob " + place, x.kindOfJob(place), kind[place]);
            Check.same("mirrorOfJob " + place, x.mirrorOfJob(place), mirror[place]);
        }
        Check.same("jobsDone", x.jobsDone(), 0);
        Check.same("minutesToGo", x.minutesToGo(), 0);
    }

    private static void wrongJobs() {
        PeriscopeTrain none = new PeriscopeTrain();
        refusePlace(none, 0);
        refusePlace(none, -1);
        PeriscopeTrain x = Check.train(FOUR);
        refusePlace(x, 0);
        x.orderJob(0, 0);
        refusePlace(x, 1);
        refusePlace(x, -1);
        refusePlace(x, 12);
        refusePlace(x, Integer.MAX_VALUE);
        refusePlace(x, Integer.MIN_VALUE);
        Check.refuses("orderJob of no mirror", x, OUT, () -> x.orderJob(4, 0));
        Check.refuses("orderJob of the mirror -1", x, OUT, () -> x.orderJob(-1, 0));
        Check.refuses("orderJob of no mirror and no kind", x, OUT, () -> x.orderJob(4, 3));
        Check.refuses("orderJob of the kind 3", x, ARGUMENT, () -> x.orderJob(0, 3));
        Check.refuses("orderJob of the kind -1", x, ARGUMENT, () -> x.orderJob(0, -1));
        Check.refuses("orderJob of the same", x, STATE, () -> x.orderJob(0, 0));
        x.passMinutes(1);
        Check.refuses("orderJob of the same that began", x, STATE, () -> x.orderJob(0, 0));
        Check.same("orderJob of another kind", x.orderJob(0, 1), 2);
        Check.same("orderJob for another mirror", x.orderJob(1, 0), 3);
        Check.refuses("orderJob of the same again", x, STATE, () -> x.orderJob(1, 0));
        x.passMinutes(4);
        Check.same("orderJob of one that was done", x.orderJob(0, 0), 3);
    }

    private static void refusePlace(PeriscopeTrain x, int place) {
        Check.refuses("kindOfJob " + place, x, OUT, () -> x.kindOfJob(place));
        Check.refuses("mirrorOfJob " + place, x, OUT, () -> x.mirrorOfJob(place));
        Check.refuses("cancelJob " + place, x, OUT, () -> x.cancelJob(place));
        Check.refuses("minutesUntilDone " + place, x, OUT, () -> x.minutesUntilDone(place));
    }

    private static void fullQueue() {
        PeriscopeTrain x = Check.train(FOUR + "mirror e clarity 1 offset 1;");
        for (int i = 0; i < 12; i++) {
            Check.same("orderJob " + i, x.orderJob(i / 3, i % 3), i + 1);
        }
        Check.refuses("orderJob with 12", x, STATE, () -> x.orderJob(4, 0));
        Check.refuses("orderJob of the same with 12", x, STATE, () -> x.orderJob(0, 0));
        Check.refuses("orderJob of no kind with 12", x, ARGUMENT, () -> x.orderJob(4, 3));
        Check.refuses("orderJob of no mirror with 12", x, OUT, () -> x.orderJob(5, 3));
        Check.same("the last job's mirror", x.mirrorOfJob(11), 3);
        Check.same("the last job's kind", x.kindOfJob(11), 2);
        refusePlace(x, 12);
        Check.same("cancelJob", x.cancelJob(11), 3);
        Check.same("orderJob with 11", x.orderJob(4, 0), 12);
        x.passMinutes(5);
        Check.same("jobs with one done", x.jobs(), 11);
        Check.same("the first job's kind", x.kindOfJob(0), 1);
        Check.same("the last job's mirror", x.mirrorOfJob(10), 4);
    }

    private static void cleaning() {
        PeriscopeTrain x = Check.train(FOUR);
        x.orderJob(0, 0);
        Check.same("passMinutes", x.passMinutes(4), 0);
        Check.same("clarityOf at work", x.clarityOf(0), 60);
        Check.same("minutesToGo", x.minutesToGo(), 1);
        Check.same("passMinutes", x.passMinutes(1), 1);
        Check.same("clarityOf", x.clarityOf(0), 100);
        Check.same("bestClarityOf", x.bestClarityOf(0), 99);
        Check.same("offsetOf", x.offsetOf(0), -12);
        Check.same("jobs", x.jobs(), 0);
        Check.same("jobsDone", x.jobsDone(), 1);
        Check.same("minutesToGo", x.minutesToGo(), 0);
        // The best clarity is less than the clarity then, which stays.
        x.orderJob(0, 0);
        Check.same("passMinutes", x.passMinutes(1), 1);
        Check.same("clarityOf", x.clarityOf(0), 100);
        Check.same("bestClarityOf", x.bestClarityOf(0), 98);
        x.dustMirror(0, 50);
        x.orderJob(0, 0);
        Check.same("passMinutes", x.passMinutes(6), 1);
        Check.same("clarityOf behind dust", x.clarityOf(0), 98);
        Check.same("bestClarityOf behind dust", x.bestClarityOf(0), 97);
    }

    private static void cleaningWearsTheMirror() {
        PeriscopeTrain x = Check.train("mirror a clarity 100 offset 0; clean a;");
        // A clean mirror takes a minute; a hundred of them leave nothing of the best clarity.
        Check.same("passMinutes", x.passMinutes(99), 99);
        Check.same("bestClarityOf", x.bestClarityOf(0), 1);
        Check.same("passMinutes", x.passMinutes(1), 1);
        Check.same("bestClarityOf", x.bestClarityOf(0), 0);
        Check.same("passMinutes", x.passMinutes(5), 5);
        Check.same("bestClarityOf at least", x.bestClarityOf(0), 0);
        Check.same("clarityOf", x.clarityOf(0), 100);
        x.dustMirror(0, 100);
        x.passMinutes(11);
        Check.same("clarityOf of a worn mirror", x.clarityOf(0), 0);
    }

    private static void aligning() {
        PeriscopeTrain x = Check.train(FOUR);
        x.orderJob(0, 1);
        x.passMinutes(1);
        Check.same("minutesToGo", x.minutesToGo(), 2);
        Check.holds("isCovered", x.isCovered(0));
        Check.same("passMinutes", x.passMinutes(1), 0);
        Check.same("offsetOf at work", x.offsetOf(0), -12);
        Check.same("passMinutes", x.passMinutes(1), 1);
        Check.same("offsetOf", x.offsetOf(0), 0);
        Check.same("clarityOf", x.clarityOf(0), 60);
        Check.same("bestClarityOf", x.bestClarityOf(0), 100);
    }

    private static void replacing() {
        PeriscopeTrain x = Check.train(FOUR);
        x.orderJob(0, 0);
        x.passMinutes(5);
        x.dustMirror(0, 70);
        x.orderJob(0, 2);
        x.passMinutes(1);
        Check.same("minutesToGo", x.minutesToGo(), 19);
        Check.same("passMinutes", x.passMinutes(18), 0);
        Check.same("clarityOf at work", x.clarityOf(0), 30);
        Check.same("bestClarityOf at work", x.bestClarityOf(0), 99);
        Check.same("passMinutes", x.passMinutes(1), 1);
        Check.same("clarityOf", x.clarityOf(0), 100);
        Check.same("bestClarityOf", x.bestClarityOf(0), 100);
        Check.same("offsetOf", x.offsetOf(0), 0);
        Check.same("placeOf", x.placeOf(0), 0);
    }

    private static void minutesOfJobs() {
        minutesOf(0, 100, 0, 1);
        minutesOf(0, 91, 0, 1);
        minutesOf(0, 90, 0, 2);
        minutesOf(0, 1, 0, 10);
        minutesOf(0, 0, 0, 11);
        minutesOf(1, 50, 0, 1);
        minutesOf(1, 50, 4, 1);
        minutesOf(1, 50, 5, 2);
        minutesOf(1, 50, -4, 1);
        minutesOf(1, 50, -5, 2);
        minutesOf(1, 50, 90, 19);
        minutesOf(1, 50, -90, 19);
        minutesOf(2, 100, 0, 20);
        minutesOf(2, 0, 90, 20);
    }

    private static void minutesOf(int kind, int clarity, int offset, int minutes) {
        String what = "of kind " + kind + " at " + clarity + " and " + offset;
        PeriscopeTrain x = Check.train("mirror a clarity " + clarity + " offset " + offset + ";");
        x.orderJob(0, kind);
        Check.same("minutesUntilDone " + what, x.minutesUntilDone(0), minutes);
        if (minutes > 1) {
            Check.same("passMinutes " + what, x.passMinutes(minutes - 1), 0);
            Check.same("minutesToGo " + what, x.minutesToGo(), 1);
            // It is told as the job begins how long it takes.
            x.dustMirror(0, 50);
            x.turnMirror(0, 45);
        }
        Check.same("the last of passMinutes " + what, x.passMinutes(1), 1);
    }

    private static void oneBehindTheOther() {
        PeriscopeTrain x = Check.train(FOUR);
        x.orderJob(0, 0);
        x.orderJob(0, 1);
        x.orderJob(1, 0);
        Check.same("passMinutes", x.passMinutes(5), 1);
        Check.same("kindOfJob", x.kindOfJob(0), 1);
        Check.same("minutesToGo of the next", x.minutesToGo(), 0);
        Check.fails("isCovered between the jobs", x.isCovered(0));
        Check.same("passMinutes", x.passMinutes(3), 1);
        Check.same("mirrorOfJob", x.mirrorOfJob(0), 1);
        Check.same("passMinutes", x.passMinutes(1), 1);
        Check.same("jobsDone", x.jobsDone(), 3);
        Check.same("jobs", x.jobs(), 0);
    }

    private static void cancelling() {
        PeriscopeTrain x = Check.train(FOUR);
        x.orderJob(0, 0);
        x.orderJob(1, 1);
        x.orderJob(2, 2);
        x.orderJob(3, 0);
        x.passMinutes(2);
        Check.same("cancelJob", x.cancelJob(1), 1);
        Check.same("jobs", x.jobs(), 3);
        Check.same("mirrorOfJob", x.mirrorOfJob(1), 2);
        Check.same("kindOfJob", x.kindOfJob(1), 2);
        Check.same("mirrorOfJob", x.mirrorOfJob(2), 3);
        Check.same("kindOfJob", x.kindOfJob(2), 0);
        Check.same("minutesToGo", x.minutesToGo(), 3);
        Check.holds("isCovered", x.isCovered(0));
        Check.same("cancelJob of the last", x.cancelJob(2), 3);
        Check.same("jobsDone", x.jobsDone(), 0);
        Check.same("orderJob of the same", x.orderJob(3, 0), 3);
    }

    private static void cancellingAtWork() {
        PeriscopeTrain x = Check.train(FOUR);
        x.orderJob(0, 0);
        x.orderJob(2, 2);
        x.passMinutes(2);
        Check.same("lightAtEnd at work", x.lightAtEnd(), 0);
        Check.same("cancelJob", x.cancelJob(0), 0);
        Check.fails("isCovered", x.isCovered(0));
        Check.same("lightBehind", x.lightBehind(0), 6000);
        Check.same("clarityOf", x.clarityOf(0), 60);
        Check.same("minutesToGo", x.minutesToGo(), 0);
        Check.same("jobsDone", x.jobsDone(), 0);
        Check.same("mirrorOfJob", x.mirrorOfJob(0), 2);
        Check.fails("isCovered of the next", x.isCovered(2));
        x.passMinutes(1);
        Check.same("minutesToGo of the next", x.minutesToGo(), 19);
        Check.holds("isCovered of the next at work", x.isCovered(2));
        Check.same("cancelJob", x.cancelJob(0), 2);
        Check.same("jobs", x.jobs(), 0);
        // A cancelled job begins anew if it is ordered again.
        x.orderJob(2, 2);
        Check.same("minutesUntilDone", x.minutesUntilDone(0), 20);
    }

    private static void turning() {
        PeriscopeTrain x = Check.train(FOUR);
        Check.same("turnMirror", x.turnMirror(0, 90), -12);
        Check.same("turnMirror", x.turnMirror(0, -90), 90);
        Check.same("offsetOf", x.offsetOf(0), -90);
        Check.same("tiltBehind", x.tiltBehind(0), -180);
        Check.same("turnMirror to the same", x.turnMirror(0, -90), -90);
        Check.same("offsetOf of another", x.offsetOf(2), 90);
        Check.refuses("turnMirror by 91", x, ARGUMENT, () -> x.turnMirror(0, 91));
        Check.refuses("turnMirror by -91", x, ARGUMENT, () -> x.turnMirror(0, -91));
        Check.refuses("turnMirror by the least", x, ARGUMENT, () -> x.turnMirror(0, Integer.MIN_VALUE));
        Check.refuses("turnMirror of no mirror", x, OUT, () -> x.turnMirror(4, 0));
        Check.refuses("turnMirror of -1", x, OUT, () -> x.turnMirror(-1, 0));
        Check.refuses("turnMirror of no mirror by 91", x, OUT, () -> x.turnMirror(4, 91));
    }

    private static void dusting() {
        PeriscopeTrain x = Check.train(FOUR);
        Check.same("dustMirror", x.dustMirror(0, 10), 50);
        Check.same("clarityOf", x.clarityOf(0), 50);
        Check.same("lightBehind", x.lightBehind(0), 5000);
        Check.same("dustMirror by 0", x.dustMirror(0, 0), 50);
        Check.same("dustMirror to 0", x.dustMirror(0, 50), 0);
        Check.same("dustMirror at least", x.dustMirror(0, 1), 0);
        Check.same("dustMirror by 100", x.dustMirror(2, 100), 0);
        Check.same("bestClarityOf", x.bestClarityOf(2), 100);
        Check.refuses("dustMirror by 101", x, ARGUMENT, () -> x.dustMirror(1, 101));
        Check.refuses("dustMirror by -1", x, ARGUMENT, () -> x.dustMirror(1, -1));
        Check.refuses("dustMirror of no mirror", x, OUT, () -> x.dustMirror(4, 0));
        Check.refuses("dustMirror of -1", x, OUT, () -> x.dustMirror(-1, 0));
        Check.refuses("dustMirror of no mirror by 101", x, OUT, () -> x.dustMirror(4, 101));
        // By hand nothing is held at the best clarity.
        x.orderJob(1, 0);
        x.passMinutes(1);
        Check.same("bestClarityOf behind a cleaning", x.bestClarityOf(1), 99);
        Check.same("dustMirror by 0 behind a cleaning", x.dustMirror(1, 0), 100);
    }

    private static void moving() {
        PeriscopeTrain x = Check.train(FOUR);
        Check.same("moveMirror back", x.moveMirror(0, 2), 0);
        row(x, 1, 2, 0, 3);
        Check.same("moveMirror up", x.moveMirror(3, 1), 3);
        row(x, 1, 3, 2, 0);
        Check.same("moveMirror to its place", x.moveMirror(2, 2), 2);
        row(x, 1, 3, 2, 0);
        Check.same("moveMirror to the end", x.moveMirror(1, 3), 0);
        row(x, 3, 2, 0, 1);
        Check.same("moveMirror to the beginning", x.moveMirror(1, 0), 3);
        row(x, 1, 3, 2, 0);
        Check.same("clarityOf", x.clarityOf(0), 60);
        Check.same("lightAtEnd", x.lightAtEnd(), 0);
        Check.same("lightBehind", x.lightBehind(1), 10000);
        Check.same("lostAt", x.lostAt(3), 10000);
        Check.refuses("moveMirror to 4", x, OUT, () -> x.moveMirror(0, 4));
        Check.refuses("moveMirror to -1", x, OUT, () -> x.moveMirror(0, -1));
        Check.refuses("moveMirror of 4", x, OUT, () -> x.moveMirror(4, 0));
        Check.refuses("moveMirror of -1", x, OUT, () -> x.moveMirror(-1, 0));
        // A covered mirror and its job move along.
        x.orderJob(1, 2);
        x.passMinutes(1);
        x.moveMirror(1, 3);
        Check.holds("isCovered behind a move", x.isCovered(1));
        Check.same("mirrorOfJob behind a move", x.mirrorOfJob(0), 1);
    }

    private static void row(PeriscopeTrain x, int... mirrors) {
        for (int place = 0; place < mirrors.length; place++) {
            Check.same("mirrorAt " + place, x.mirrorAt(place), mirrors[place]);
            Check.same("placeOf " + mirrors[place], x.placeOf(mirrors[place]), place);
        }
    }
}
