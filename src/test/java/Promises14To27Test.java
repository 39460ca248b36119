import java.util.function.IntUnaryOperator;

/** Promises 14 to 27, each sentence of them: mirrors, and jobs. */
final class Promises14To27Test {
    private static final String THREE = "mirror a clarity 90 offset 5; mirror b clarity 0 offset -90;"
            + "mirror c clarity 100 offset 90;";
    private static final int CLEAN = 0;
    private static final int ALIGN = 1;
    private static final int REPLACE = 2;

    private Promises14To27Test() {
    }

    public static void main(String[] args) {
        promise14ClarityOf();
        promise14To22OfNoSuchMirrorOrPlace();
        promise15BestClarityOf();
        promise16OffsetOf();
        promise17PlaceOf();
        promise18LightBehind();
        promise19LostAt();
        promise20TiltBehind();
        promise21IsCovered();
        promise22MirrorAt();
        promise23Jobs();
        promise24JobsDone();
        promise25KindOfJob();
        promise26MirrorOfJob();
        promise25And26OfNoSuchPlace();
        promise27MinutesToGo();
        Check.end();
    }

    private static String mirrors(int count) {
        StringBuilder text = new StringBuilder();
        for (int i = 0; i < count; i++) {
            text.append("mirror m").append(i).append(" clarity ").append(90 + i).append(" offset ").append(i)
                    .append(';');
        }
        return text.toString();
    }

    private static void each(String what, IntUnaryOperator call, int... due) {
        for (int i = 0; i < due.length; i++) {
            Check.same(what + " " + i, call.applyAsInt(i), due[i]);
        }
    }

    private static void promise14ClarityOf() {
        PeriscopeTrain x = Check.train(THREE);
        each("clarityOf", x::clarityOf, 90, 0, 100);
        x.dustMirror(2, 40);
        x.moveMirror(2, 0);
        each("clarityOf behind dust and a move", x::clarityOf, 90, 0, 60);
        x = Check.train(mirrors(10));
        each("clarityOf of ten", x::clarityOf, 90, 91, 92, 93, 94, 95, 96, 97, 98, 99);
    }

    private static void promise14To22OfNoSuchMirrorOrPlace() {
        for (int count = 0; count <= 10; count++) {
            PeriscopeTrain x = Check.train(mirrors(count));
            if (count > 0) {
                answersOf(x, 0);
                answersOf(x, count - 1);
            }
            for (int wrong : new int[] {-1, count, 10, 11, Integer.MIN_VALUE, Integer.MAX_VALUE}) {
                Check.refuses("clarityOf " + wrong, x, Check.OUT, () -> x.clarityOf(wrong));
                Check.refuses("bestClarityOf " + wrong, x, Check.OUT, () -> x.bestClarityOf(wrong));
                Check.refuses("offsetOf " + wrong, x, Check.OUT, () -> x.offsetOf(wrong));
                Check.refuses("placeOf " + wrong, x, Check.OUT, () -> x.placeOf(wrong));
                Check.refuses("lightBehind " + wrong, x, Check.OUT, () -> x.lightBehind(wrong));
                Check.refuses("lostAt " + wrong, x, Check.OUT, () -> x.lostAt(wrong));
                Check.refuses("tiltBehind " + wrong, x, Check.OUT, () -> x.tiltBehind(wrong));
                Check.refuses("isCovered " + wrong, x, Check.OUT, () -> x.isCovered(wrong));
                Check.refuses("mirrorAt " + wrong, x, Check.OUT, () -> x.mirrorAt(wrong));
            }
        }
        // Mirrors of a train that another took the place of are no mirrors any more.
        PeriscopeTrain x = Check.train(mirrors(10));
        Check.tell(x, mirrors(1));
        Check.refuses("clarityOf of a train before", x, Check.OUT, () -> x.clarityOf(1));
        Check.refuses("mirrorAt of a train before", x, Check.OUT, () -> x.mirrorAt(1));
    }

    private static void answersOf(PeriscopeTrain x, int mirror) {
        Check.same("clarityOf " + mirror, x.clarityOf(mirror), 90 + mirror);
        Check.same("bestClarityOf " + mirror, x.bestClarityOf(mirror), 100);
        Check.same("offsetOf " + mirror, x.offsetOf(mirror), mirror);
        Check.same("placeOf " + mirror, x.placeOf(mirror), mirror);
        Check.same("mirrorAt " + mirror, x.mirrorAt(mirror), mirror);
        Check.same("tiltBehind " + mirror, x.tiltBehind(mirror), mirror * (mirror + 1));
        Check.fails("isCovered " + mirror, x.isCovered(mirror));
        int comes = mirror == 0 ? 10000 : x.lightBehind(mirror - 1);
        Check.same("lightBehind and lostAt " + mirror, x.lightBehind(mirror) + x.lostAt(mirror), comes);
    }

    private static void promise15BestClarityOf() {
        PeriscopeTrain x = Check.train("mirror a clarity 0 offset 0; mirror b clarity 100 offset 0; clean b;");
        each("bestClarityOf", x::bestClarityOf, 100, 100);
        x.passMinutes(1);
        each("bestClarityOf of one that was cleaned", x::bestClarityOf, 100, 99);
        x.dustMirror(1, 100);
        each("bestClarityOf behind dust", x::bestClarityOf, 100, 99);
        x = Check.train("mirror a clarity 0 offset 0; mirror b clarity 100 offset 0; clean b;");
        x.passMinutes(98);
        each("bestClarityOf of 98 times", x::bestClarityOf, 100, 2);
        x.passMinutes(2);
        each("bestClarityOf of 100 times", x::bestClarityOf, 100, 0);
        x.passMinutes(1);
        each("bestClarityOf at least", x::bestClarityOf, 100, 0);
    }

    private static void promise16OffsetOf() {
        PeriscopeTrain x = Check.train(THREE);
        each("offsetOf", x::offsetOf, 5, -90, 90);
        x.turnMirror(0, -7);
        x.moveMirror(2, 0);
        each("offsetOf behind a turn and a move", x::offsetOf, -7, -90, 90);
        x.orderJob(1, ALIGN);
        x.passMinutes(19);
        each("offsetOf of one that was aligned", x::offsetOf, -7, 0, 90);
    }

    private static void promise17PlaceOf() {
        PeriscopeTrain x = Check.train(mirrors(10));
        each("placeOf", x::placeOf, 0, 1, 2, 3, 4, 5, 6, 7, 8, 9);
        x.moveMirror(0, 9);
        each("placeOf", x::placeOf, 9, 0, 1, 2, 3, 4, 5, 6, 7, 8);
        x.moveMirror(5, 0);
        each("placeOf", x::placeOf, 9, 1, 2, 3, 4, 0, 5, 6, 7, 8);
    }

    private static void promise18LightBehind() {
        PeriscopeTrain x = Check.train("mirror a clarity 90 offset 0; mirror b clarity 50 offset 0;"
                + "mirror c clarity 0 offset 0;");
        each("lightBehind", x::lightBehind, 9000, 4500, 0);
        x.moveMirror(2, 1);
        each("lightBehind", x::lightBehind, 9000, 0, 0);
        x.moveMirror(2, 2);
        x.orderJob(1, REPLACE);
        each("lightBehind with a job that waits", x::lightBehind, 9000, 4500, 0);
        x.passMinutes(1);
        each("lightBehind with a covered mirror", x::lightBehind, 9000, 0, 0);
        x.cancelJob(0);
        x.turnMirror(0, 31);
        each("lightBehind beyond the width", x::lightBehind, 9000, 0, 0);
    }

    private static void promise19LostAt() {
        PeriscopeTrain x = Check.train("mirror a clarity 90 offset 0; mirror b clarity 50 offset 0;"
                + "mirror c clarity 0 offset 0;");
        each("lostAt", x::lostAt, 1000, 4500, 4500);
        x.moveMirror(2, 1);
        each("lostAt", x::lostAt, 1000, 0, 9000);
        x.moveMirror(2, 2);
        x.orderJob(1, REPLACE);
        x.passMinutes(1);
        each("lostAt with a covered mirror", x::lostAt, 1000, 9000, 0);
        x.cancelJob(0);
        x.turnMirror(0, 31);
        each("lostAt beyond the width", x::lostAt, 1000, 9000, 0);
        x.turnMirror(0, 30);
        each("lostAt at the width", x::lostAt, 1000, 4500, 4500);
    }

    private static void promise20TiltBehind() {
        PeriscopeTrain x = Check.train(THREE);
        each("tiltBehind", x::tiltBehind, 10, -170, 10);
        x.moveMirror(2, 0);
        each("tiltBehind behind a move", x::tiltBehind, 190, 10, 180);
        x.turnMirror(0, -5);
        each("tiltBehind behind a turn", x::tiltBehind, 170, -10, 180);
        x.orderJob(0, REPLACE);
        x.passMinutes(1);
        each("tiltBehind with a covered mirror", x::tiltBehind, 170, -10, 180);
    }

    private static void promise21IsCovered() {
        PeriscopeTrain x = Check.train(THREE);
        IntUnaryOperator covered = mirror -> x.isCovered(mirror) ? 1 : 0;
        each("isCovered", covered, 0, 0, 0);
        x.orderJob(1, REPLACE);
        x.orderJob(0, REPLACE);
        x.orderJob(1, CLEAN);
        each("isCovered with jobs that wait", covered, 0, 0, 0);
        x.passMinutes(1);
        each("isCovered in the first minute", covered, 0, 1, 0);
        x.moveMirror(1, 0);
        each("isCovered behind a move", covered, 0, 1, 0);
        x.passMinutes(18);
        each("isCovered in the last minute", covered, 0, 1, 0);
        x.passMinutes(1);
        each("isCovered behind the job", covered, 0, 0, 0);
        x.passMinutes(1);
        each("isCovered at the next job", covered, 1, 0, 0);
        x.cancelJob(1);
        each("isCovered with another job cancelled", covered, 1, 0, 0);
        x.cancelJob(0);
        each("isCovered with the job cancelled", covered, 0, 0, 0);
    }

    private static void promise22MirrorAt() {
        PeriscopeTrain x = Check.train(mirrors(10));
        each("mirrorAt", x::mirrorAt, 0, 1, 2, 3, 4, 5, 6, 7, 8, 9);
        x.moveMirror(9, 0);
        each("mirrorAt", x::mirrorAt, 9, 0, 1, 2, 3, 4, 5, 6, 7, 8);
        x.moveMirror(0, 5);
        each("mirrorAt", x::mirrorAt, 9, 1, 2, 3, 4, 0, 5, 6, 7, 8);
    }

    private static void promise23Jobs() {
        PeriscopeTrain x = Check.train(mirrors(5));
        Check.same("jobs", x.jobs(), 0);
        for (int i = 0; i < 12; i++) {
            x.orderJob(i / 3, (i + 1) % 3);
            Check.same("jobs", x.jobs(), i + 1);
        }
        Check.refuses("orderJob", x, Check.STATE, () -> x.orderJob(4, CLEAN));
        Check.same("jobs of a full queue", x.jobs(), 12);
        // The alignment of 0 is done in its first minute, the replacement not before its 20th.
        x.passMinutes(1);
        Check.same("jobs with one done", x.jobs(), 11);
        x.passMinutes(1);
        Check.same("jobs with one at work", x.jobs(), 11);
        x.cancelJob(0);
        Check.same("jobs with one cancelled", x.jobs(), 10);
        for (int i = 9; i >= 0; i--) {
            x.cancelJob(i / 2);
            Check.same("jobs", x.jobs(), i);
        }
    }

    private static void promise24JobsDone() {
        PeriscopeTrain x = Check.train("mirror a clarity 100 offset 0; clean a when minute < 50;");
        Check.same("jobsDone", x.jobsDone(), 0);
        x.orderJob(0, CLEAN);
        Check.same("jobsDone of a job that waits", x.jobsDone(), 0);
        x.passMinutes(1);
        Check.same("jobsDone", x.jobsDone(), 1);
        x.passMinutes(9);
        Check.same("jobsDone in all", x.jobsDone(), 10);
        x.lightAfter(30);
        x.minutesUntilSeen();
        Check.same("jobsDone behind questions", x.jobsDone(), 10);
        x.passMinutes(100);
        Check.same("jobsDone in all", x.jobsDone(), 50);
        x.orderJob(0, REPLACE);
        x.passMinutes(19);
        Check.same("jobsDone at work", x.jobsDone(), 50);
        x.cancelJob(0);
        x.passMinutes(1);
        Check.same("jobsDone with one cancelled", x.jobsDone(), 50);
        Check.tell(x, "?");
        Check.same("jobsDone behind an error", x.jobsDone(), 50);
        x.teach();
        Check.same("jobsDone of a train begun anew", x.jobsDone(), 0);
    }

    private static PeriscopeTrain full() {
        PeriscopeTrain x = Check.train(mirrors(5));
        for (int i = 0; i < 12; i++) {
            x.orderJob(4 - i / 3, 2 - i % 3);
        }
        return x;
    }

    private static void promise25KindOfJob() {
        PeriscopeTrain x = full();
        each("kindOfJob", x::kindOfJob, 2, 1, 0, 2, 1, 0, 2, 1, 0, 2, 1, 0);
        x.passMinutes(1);
        each("kindOfJob at work", x::kindOfJob, 2, 1, 0, 2, 1, 0, 2, 1, 0, 2, 1, 0);
        x.passMinutes(19);
        each("kindOfJob with one done", x::kindOfJob, 1, 0, 2, 1, 0, 2, 1, 0, 2, 1, 0);
        x.cancelJob(1);
        each("kindOfJob with one cancelled", x::kindOfJob, 1, 2, 1, 0, 2, 1, 0, 2, 1, 0);
    }

    private static void promise26MirrorOfJob() {
        PeriscopeTrain x = full();
        each("mirrorOfJob", x::mirrorOfJob, 4, 4, 4, 3, 3, 3, 2, 2, 2, 1, 1, 1);
        x.moveMirror(4, 0);
        x.passMinutes(20);
        each("mirrorOfJob with one done", x::mirrorOfJob, 4, 4, 3, 3, 3, 2, 2, 2, 1, 1, 1);
        x.cancelJob(3);
        each("mirrorOfJob with one cancelled", x::mirrorOfJob, 4, 4, 3, 3, 2, 2, 2, 1, 1, 1);
    }

    private static void promise25And26OfNoSuchPlace() {
        PeriscopeTrain x = full();
        for (int size = 12; size >= 0; size--) {
            for (int wrong : new int[] {-1, size, 12, 13, Integer.MIN_VALUE, Integer.MAX_VALUE}) {
                Check.refuses("kindOfJob " + wrong + " of " + size, x, Check.OUT, () -> x.kindOfJob(wrong));
                Check.refuses("mirrorOfJob " + wrong + " of " + size, x, Check.OUT, () -> x.mirrorOfJob(wrong));
            }
            if (size > 0) {
                Check.same("kindOfJob of the last", x.kindOfJob(size - 1), 2 - (size - 1) % 3);
                Check.same("mirrorOfJob of the last", x.mirrorOfJob(size - 1), 4 - (size - 1) / 3);
                x.cancelJob(size - 1);
            }
        }
    }

    private static void promise27MinutesToGo() {
        PeriscopeTrain x = Check.train("mirror a clarity 71 offset 5; mirror b clarity 100 offset 0;");
        Check.same("minutesToGo without jobs", x.minutesToGo(), 0);
        x.orderJob(0, CLEAN);
        x.orderJob(1, ALIGN);
        x.orderJob(0, REPLACE);
        Check.same("minutesToGo ahead of the beginning", x.minutesToGo(), 0);
        // 29 / 10 and 1 are 3 minutes; then 1; then 20.
        int[] due = {2, 1, 0, 0, 19, 18, 17};
        for (int minute = 0; minute < due.length; minute++) {
            x.passMinutes(1);
            Check.same("minutesToGo behind " + (minute + 1), x.minutesToGo(), due[minute]);
        }
        x.orderJob(1, CLEAN);
        x.cancelJob(1);
        Check.same("minutesToGo with another job cancelled", x.minutesToGo(), 17);
        x.orderJob(1, CLEAN);
        x.minutesUntilDone(1);
        Check.same("minutesToGo behind a question", x.minutesToGo(), 17);
        x.cancelJob(0);
        Check.same("minutesToGo with the job cancelled", x.minutesToGo(), 0);
        x.orderJob(0, REPLACE);
        x.passMinutes(1);
        Check.same("minutesToGo of a job done", x.minutesToGo(), 0);
        x.passMinutes(1);
        Check.same("minutesToGo of a job that begins anew", x.minutesToGo(), 19);
    }
}
