import java.math.BigInteger;

/** Promises 28 to 40, each sentence of them: what is done by hand, minutes, and what would be. */
final class Promises28To40Test {
    private static final String FIVE = "mirror a clarity 60 offset -12; mirror b clarity 100 offset 0;"
            + "mirror c clarity 61 offset 90; mirror d clarity 0 offset 4; mirror e clarity 99 offset -90;";
    private static final int[] NO_MIRRORS = {-1, 5, 10, Integer.MIN_VALUE, Integer.MAX_VALUE};
    private static final int CLEAN = 0;
    private static final int ALIGN = 1;
    private static final int REPLACE = 2;

    private Promises28To40Test() {
    }

    public static void main(String[] args) {
        promise28OrderJob();
        promise28OrderJobOfNoMirrorOrKind();
        promise28OrderJobWith12();
        promise28OrderJobOfTheSame();
        promise29CancelJob();
        promise29CancelJobThatBegan();
        promise29CancelJobOfNoPlace();
        promise30TurnMirror();
        promise30TurnMirrorTooFar();
        promise31DustMirror();
        promise31DustMirrorIsNotHeldAtTheBest();
        promise31DustMirrorByNoDust();
        promise32MoveMirror();
        promise32MoveMirrorFromAnyPlaceToAny();
        promise32MoveMirrorOfNoMirrorOrPlace();
        promise33PassMinutes();
        promise33And34Of1To100Minutes();
        promise34LightAfter();
        promise34To38ChangeNothing();
        promise35MinutesUntilSeen();
        promise35MinutesUntilSeenAtMost100();
        promise36MinutesUntilDone();
        promise36MinutesUntilDoneOfTheLast();
        promise36MinutesUntilDoneOfNoPlace();
        promise37BestToClean();
        promise37BestToCleanOfSeveral();
        promise37BestToCleanOfNone();
        promise38BestOffset();
        promise38BestOffsetNearestTo0();
        promise38BestOffsetOf90();
        promise38BestOffsetOfNoMirror();
        promise39MeanClarity();
        promise40Digest();
        promise40DigestWrapsAround();
        Check.end();
    }

    private static void promise28OrderJob() {
        PeriscopeTrain x = Check.train(FIVE);
        int[][] orders = {{0, CLEAN}, {0, ALIGN}, {0, REPLACE}, {4, REPLACE}, {4, CLEAN}, {2, ALIGN}};
        for (int i = 0; i < orders.length; i++) {
            Check.same("orderJob", x.orderJob(orders[i][0], orders[i][1]), i + 1);
            Check.same("mirrorOfJob", x.mirrorOfJob(i), orders[i][0]);
            Check.same("kindOfJob", x.kindOfJob(i), orders[i][1]);
        }
        Check.same("minutesToGo", x.minutesToGo(), 0);
        Check.same("minutes", x.minutes(), 0);
    }

    private static void promise28OrderJobOfNoMirrorOrKind() {
        PeriscopeTrain x = Check.train(FIVE);
        for (int wrong : NO_MIRRORS) {
            Check.refuses("orderJob of " + wrong, x, Check.OUT, () -> x.orderJob(wrong, CLEAN));
            Check.refuses("orderJob of " + wrong + " and no kind", x, Check.OUT, () -> x.orderJob(wrong, 3));
        }
        for (int wrong : new int[] {-1, 3, Integer.MIN_VALUE, Integer.MAX_VALUE}) {
            Check.refuses("orderJob of the kind " + wrong, x, Check.ARGUMENT, () -> x.orderJob(0, wrong));
        }
        Check.same("orderJob of the kind 0", x.orderJob(0, 0), 1);
        Check.same("orderJob of the kind 2", x.orderJob(4, 2), 2);
    }

    private static PeriscopeTrain eleven() {
        PeriscopeTrain x = Check.train(FIVE);
        for (int i = 0; i < 11; i++) {
            x.orderJob(i / 3, i % 3);
        }
        return x;
    }

    private static void promise28OrderJobWith12() {
        PeriscopeTrain x = eleven();
        Check.same("orderJob with 11", x.orderJob(4, ALIGN), 12);
        Check.refuses("orderJob with 12", x, Check.STATE, () -> x.orderJob(4, CLEAN));
        Check.refuses("orderJob of the same with 12", x, Check.STATE, () -> x.orderJob(4, ALIGN));
        Check.refuses("orderJob of no kind with 12", x, Check.ARGUMENT, () -> x.orderJob(4, 3));
        Check.refuses("orderJob of no mirror with 12", x, Check.OUT, () -> x.orderJob(5, CLEAN));
        x.cancelJob(11);
        Check.same("orderJob with 11 again", x.orderJob(4, CLEAN), 12);
        // The cleaning of 40 takes 5 minutes; then there is a place.
        x.passMinutes(4);
        Check.refuses("orderJob with 12 in the last minute", x, Check.STATE, () -> x.orderJob(4, ALIGN));
        x.passMinutes(1);
        Check.same("orderJob with one done", x.orderJob(4, ALIGN), 12);
    }

    private static void promise28OrderJobOfTheSame() {
        PeriscopeTrain x = eleven();
        for (int i = 0; i < 11; i++) {
            int mirror = i / 3;
            int kind = i % 3;
            Check.refuses("orderJob of the same " + i, x, Check.STATE, () -> x.orderJob(mirror, kind));
        }
        x.passMinutes(1);
        Check.refuses("orderJob of the same that began", x, Check.STATE, () -> x.orderJob(0, CLEAN));
        x.passMinutes(4);
        Check.same("orderJob of the same that is done", x.orderJob(0, CLEAN), 11);
        x.cancelJob(0);
        Check.same("orderJob of the same that was cancelled", x.orderJob(0, ALIGN), 11);
        Check.refuses("orderJob of the last one", x, Check.STATE, () -> x.orderJob(0, ALIGN));
    }

    private static void promise29CancelJob() {
        int[] mirrors = {0, 0, 0, 1, 1, 1, 2, 2, 2, 3, 3};
        for (int place = 0; place < 11; place++) {
            PeriscopeTrain x = eleven();
            Check.same("cancelJob " + place, x.cancelJob(place), mirrors[place]);
            Check.same("jobs", x.jobs(), 10);
            for (int i = 0; i < 10; i++) {
                int before = i < place ? i : i + 1;
                Check.same("mirrorOfJob " + i + " without " + place, x.mirrorOfJob(i), mirrors[before]);
                Check.same("kindOfJob " + i + " without " + place, x.kindOfJob(i), before % 3);
            }
            Check.same("jobsDone", x.jobsDone(), 0);
        }
        PeriscopeTrain x = eleven();
        x.orderJob(4, CLEAN);
        Check.same("cancelJob of a full queue", x.cancelJob(0), 0);
        Check.same("mirrorOfJob", x.mirrorOfJob(10), 4);
        Check.same("jobs", x.jobs(), 11);
    }

    private static void promise29CancelJobThatBegan() {
        PeriscopeTrain x = eleven();
        x.passMinutes(2);
        Check.same("cancelJob behind it", x.cancelJob(1), 0);
        Check.same("minutesToGo", x.minutesToGo(), 3);
        Check.holds("isCovered", x.isCovered(0));
        Check.same("cancelJob", x.cancelJob(0), 0);
        Check.same("minutesToGo", x.minutesToGo(), 0);
        Check.fails("isCovered", x.isCovered(0));
        Check.same("clarityOf", x.clarityOf(0), 60);
        Check.same("bestClarityOf", x.bestClarityOf(0), 100);
        Check.same("kindOfJob", x.kindOfJob(0), REPLACE);
        // The next one begins in the next minute, with all of its own minutes.
        Check.same("passMinutes", x.passMinutes(19), 0);
        Check.same("minutesToGo", x.minutesToGo(), 1);
        Check.same("passMinutes", x.passMinutes(1), 1);
    }

    private static void promise29CancelJobOfNoPlace() {
        PeriscopeTrain x = eleven();
        for (int size = 11; size >= 0; size--) {
            for (int wrong : new int[] {-1, size, 12, Integer.MIN_VALUE, Integer.MAX_VALUE}) {
                Check.refuses("cancelJob " + wrong + " of " + size, x, Check.OUT, () -> x.cancelJob(wrong));
            }
            if (size > 0) {
                Check.same("cancelJob of the last", x.cancelJob(size - 1), (size - 1) / 3);
            }
        }
    }

    private static void promise30TurnMirror() {
        PeriscopeTrain x = Check.train(FIVE);
        int before = -12;
        for (int offset : new int[] {-90, 90, 89, 0, 1, -1, -89, -89}) {
            Check.same("turnMirror to " + offset, x.turnMirror(0, offset), before);
            Check.same("offsetOf", x.offsetOf(0), offset);
            Check.same("tiltBehind", x.tiltBehind(0), 2 * offset);
            before = offset;
        }
        Check.same("turnMirror of the last", x.turnMirror(4, 3), -90);
        Check.same("offsetOf another", x.offsetOf(0), -89);
        // Also a mirror that is worked at; its job goes on.
        x.orderJob(0, ALIGN);
        x.passMinutes(1);
        Check.same("turnMirror of a covered mirror", x.turnMirror(0, 5), -89);
        Check.same("minutesToGo", x.minutesToGo(), 17);
        x.passMinutes(17);
        Check.same("offsetOf", x.offsetOf(0), 0);
    }

    private static void promise30TurnMirrorTooFar() {
        PeriscopeTrain x = Check.train(FIVE);
        for (int offset : new int[] {-91, 91, -180, 180, Integer.MIN_VALUE, Integer.MAX_VALUE}) {
            Check.refuses("turnMirror to " + offset, x, Check.ARGUMENT, () -> x.turnMirror(0, offset));
        }
        for (int wrong : NO_MIRRORS) {
            Check.refuses("turnMirror of " + wrong, x, Check.OUT, () -> x.turnMirror(wrong, 0));
            Check.refuses("turnMirror of " + wrong + " to 91", x, Check.OUT, () -> x.turnMirror(wrong, 91));
        }
    }

    private static void promise31DustMirror() {
        PeriscopeTrain x = Check.train(FIVE);
        Check.same("dustMirror by 0", x.dustMirror(0, 0), 60);
        Check.same("dustMirror by 1", x.dustMirror(0, 1), 59);
        Check.same("dustMirror to 1", x.dustMirror(0, 58), 1);
        Check.same("dustMirror to 0", x.dustMirror(0, 1), 0);
        Check.same("dustMirror at least", x.dustMirror(0, 1), 0);
        Check.same("dustMirror at least", x.dustMirror(2, 62), 0);
        Check.same("dustMirror by 100", x.dustMirror(1, 100), 0);
        Check.same("dustMirror by 100", x.dustMirror(4, 100), 0);
        for (int mirror = 0; mirror < 5; mirror++) {
            Check.same("clarityOf", x.clarityOf(mirror), 0);
            Check.same("bestClarityOf", x.bestClarityOf(mirror), 100);
        }
    }

    private static void promise31DustMirrorIsNotHeldAtTheBest() {
        PeriscopeTrain x = Check.train("mirror a clarity 100 offset 0; clean a when minute < 3;");
        x.passMinutes(3);
        Check.same("bestClarityOf", x.bestClarityOf(0), 97);
        Check.same("dustMirror by 0", x.dustMirror(0, 0), 100);
        Check.same("dustMirror by 1", x.dustMirror(0, 1), 99);
        Check.same("dustMirror by 4", x.dustMirror(0, 4), 95);
    }

    private static void promise31DustMirrorByNoDust() {
        PeriscopeTrain x = Check.train(FIVE);
        for (int dust : new int[] {-1, 101, Integer.MIN_VALUE, Integer.MAX_VALUE}) {
            Check.refuses("dustMirror by " + dust, x, Check.ARGUMENT, () -> x.dustMirror(0, dust));
        }
        for (int wrong : NO_MIRRORS) {
            Check.refuses("dustMirror of " + wrong, x, Check.OUT, () -> x.dustMirror(wrong, 1));
            Check.refuses("dustMirror of " + wrong + " by 101", x, Check.OUT, () -> x.dustMirror(wrong, 101));
        }
    }

    private static void row(PeriscopeTrain x, int... mirrors) {
        for (int place = 0; place < mirrors.length; place++) {
            Check.same("mirrorAt " + place, x.mirrorAt(place), mirrors[place]);
            Check.same("placeOf " + mirrors[place], x.placeOf(mirrors[place]), place);
        }
    }

    private static void promise32MoveMirror() {
        PeriscopeTrain x = Check.train(FIVE);
        Check.same("moveMirror to the end", x.moveMirror(0, 4), 0);
        row(x, 1, 2, 3, 4, 0);
        Check.same("moveMirror to the beginning", x.moveMirror(0, 0), 4);
        row(x, 0, 1, 2, 3, 4);
        Check.same("moveMirror farther on", x.moveMirror(1, 3), 1);
        row(x, 0, 2, 3, 1, 4);
        Check.same("moveMirror ahead", x.moveMirror(1, 2), 3);
        row(x, 0, 2, 1, 3, 4);
        Check.same("moveMirror to its place", x.moveMirror(1, 2), 2);
        row(x, 0, 2, 1, 3, 4);
        PeriscopeTrain one = Check.train("mirror a clarity 60 offset -12;");
        Check.same("moveMirror of one", one.moveMirror(0, 0), 0);
        row(one, 0);
    }

    private static void promise32MoveMirrorFromAnyPlaceToAny() {
        for (int from = 0; from < 5; from++) {
            for (int to = 0; to < 5; to++) {
                PeriscopeTrain x = Check.train(FIVE);
                Check.same("moveMirror " + from + " to " + to, x.moveMirror(from, to), from);
                int[] due = new int[5];
                int next = 0;
                for (int place = 0; place < 5; place++) {
                    next += place != to && next == from ? 1 : 0;
                    due[place] = place == to ? from : next++;
                }
                row(x, due);
            }
        }
    }

    private static void promise32MoveMirrorOfNoMirrorOrPlace() {
        PeriscopeTrain x = Check.train(FIVE);
        for (int wrong : NO_MIRRORS) {
            Check.refuses("moveMirror of " + wrong, x, Check.OUT, () -> x.moveMirror(wrong, 0));
            Check.refuses("moveMirror to " + wrong, x, Check.OUT, () -> x.moveMirror(0, wrong));
            Check.refuses("moveMirror of and to " + wrong, x, Check.OUT, () -> x.moveMirror(wrong, wrong));
        }
    }

    private static void promise33PassMinutes() {
        PeriscopeTrain x = Check.train("mirror a clarity 100 offset 0; clean a when minute / 2 * 2 = minute;");
        Check.same("passMinutes(1)", x.passMinutes(1), 1);
        Check.same("passMinutes(1)", x.passMinutes(1), 0);
        // Those of these minutes only, and not those before.
        Check.same("passMinutes(2)", x.passMinutes(2), 1);
        Check.same("passMinutes(100)", x.passMinutes(100), 50);
        Check.same("minutes", x.minutes(), 104);
        Check.same("jobsDone", x.jobsDone(), 52);
        PeriscopeTrain y = Check.train("mirror a clarity 100 offset 0;");
        Check.same("passMinutes without jobs", y.passMinutes(100), 0);
        y.orderJob(0, REPLACE);
        Check.same("passMinutes at work", y.passMinutes(19), 0);
        Check.same("passMinutes of the last minute", y.passMinutes(1), 1);
        // So many minutes at once are so many minutes one by one.
        String text = FIVE + "shake a by minute; dust b by 2; clean b when clarity of b < 70; align a;";
        PeriscopeTrain one = Check.train(text);
        PeriscopeTrain all = Check.train(text);
        int done = 0;
        for (int minute = 0; minute < 60; minute++) {
            done += one.passMinutes(1);
        }
        Check.same("passMinutes(60)", all.passMinutes(60), done);
        Check.same("digest", all.digest(), one.digest());
    }

    private static void promise33And34Of1To100Minutes() {
        PeriscopeTrain x = Check.train(FIVE + "shake a by 1;");
        for (int wrong : new int[] {0, -1, 101, Integer.MIN_VALUE, Integer.MAX_VALUE}) {
            Check.refuses("passMinutes of " + wrong, x, Check.ARGUMENT, () -> x.passMinutes(wrong));
            Check.refuses("lightAfter of " + wrong, x, Check.ARGUMENT, () -> x.lightAfter(wrong));
        }
        x.passMinutes(1);
        Check.same("minutes", x.minutes(), 1);
        x.passMinutes(100);
        Check.same("minutes", x.minutes(), 101);
        PeriscopeTrain y = Check.train("mirror a clarity 100 offset 0; dust a by 1;");
        Check.same("lightAfter(1)", y.lightAfter(1), 9900);
        Check.same("lightAfter(99)", y.lightAfter(99), 100);
        Check.same("lightAfter(100)", y.lightAfter(100), 0);
    }

    private static void promise34LightAfter() {
        String text = "mirror a clarity 95 offset 0; mirror b clarity 80 offset 0; dust a by 1; shake b by 7;"
                + "clean a when clarity of a < 60; align b when offset of b > 20; limit 5000;";
        PeriscopeTrain x = Check.train(text);
        x.passMinutes(5);
        x.orderJob(0, CLEAN);
        x.orderJob(1, REPLACE);
        x.passMinutes(1);
        for (int minutes = 1; minutes <= 100; minutes++) {
            PeriscopeTrain y = Check.train(text);
            y.passMinutes(5);
            y.orderJob(0, CLEAN);
            y.orderJob(1, REPLACE);
            y.passMinutes(1);
            y.passMinutes(minutes);
            Check.same("lightAfter(" + minutes + ")", x.lightAfter(minutes), y.lightAtEnd());
        }
        Check.same("minutes", x.minutes(), 6);
        // Light at the end counts, also if it is not seen there.
        x = Check.train("width 0; mirror a clarity 50 offset 0; shake a by 1;");
        Check.same("lightAfter out of line", x.lightAfter(1), 5000);
    }

    private static void promise34To38ChangeNothing() {
        String text = "mirror a clarity 95 offset 20; mirror b clarity 80 offset 0; mirror c clarity 70 offset 0;"
                + "dust a by 1; shake b by 7; clean a when clarity of a < 60; align b when offset of b > 20; limit 9999;";
        PeriscopeTrain x = Check.train(text);
        PeriscopeTrain y = Check.train(text);
        for (PeriscopeTrain train : new PeriscopeTrain[] {x, y}) {
            Check.tell(train, "?");
            train.moveMirror(2, 0);
            train.orderJob(0, CLEAN);
            train.orderJob(1, REPLACE);
            train.orderJob(2, ALIGN);
            train.passMinutes(2);
            Check.write(train, "width 5");
        }
        for (int round = 0; round < 5; round++) {
            x.lightAfter(1);
            x.lightAfter(100);
            x.minutesUntilSeen();
            x.minutesUntilDone(0);
            x.minutesUntilDone(x.jobs() - 1);
            x.bestToClean();
            x.bestOffset(0);
            x.bestOffset(2);
            x.meanClarity();
            x.worstMirror();
            Check.same("digest behind questions", x.digest(), y.digest());
            x.passMinutes(1);
            y.passMinutes(1);
        }
        Check.sameFromNowOn("behind questions", x, y);
    }

    private static void promise35MinutesUntilSeen() {
        PeriscopeTrain x = Check.train("limit 6000; mirror a clarity 57 offset 0; dust a by -1;");
        Check.same("minutesUntilSeen", x.minutesUntilSeen(), 3);
        for (int minute = 2; minute >= 0; minute--) {
            x.passMinutes(1);
            Check.same("minutesUntilSeen", x.minutesUntilSeen(), minute);
        }
        x.passMinutes(50);
        Check.same("minutesUntilSeen of now", x.minutesUntilSeen(), 0);
        // For the first time, also if it is not seen any more later.
        x = Check.train("limit 6000; mirror a clarity 50 offset 0; dust a by -10 when minute = 4;"
                + "dust a by 10 when minute = 5; dust a by -10 when minute = 7;");
        Check.same("minutesUntilSeen for a minute", x.minutesUntilSeen(), 5);
        x.passMinutes(6);
        Check.same("minutesUntilSeen for the second time", x.minutesUntilSeen(), 2);
        // The width counts, too; and the end of a job.
        x = Check.train("mirror a clarity 50 offset 40; shake a by -1;");
        Check.same("minutesUntilSeen by the width", x.minutesUntilSeen(), 10);
        x = Check.train("mirror a clarity 50 offset 0;");
        x.orderJob(0, REPLACE);
        Check.same("minutesUntilSeen with a job that waits", x.minutesUntilSeen(), 0);
        x.passMinutes(1);
        Check.same("minutesUntilSeen with a job at work", x.minutesUntilSeen(), 19);
        Check.same("minutesUntilSeen of no mirrors", new PeriscopeTrain().minutesUntilSeen(), 0);
    }

    private static void promise35MinutesUntilSeenAtMost100() {
        for (int offset = 0; offset <= 3; offset++) {
            // From -90 to -30 there are 60 shakes, the first one in the minute 38 or later.
            PeriscopeTrain x = Check.train("mirror a clarity 100 offset -90; shake a by 1 when minute >= "
                    + (38 + offset) + ";");
            int due = 98 + offset;
            Check.same("minutesUntilSeen of " + due, x.minutesUntilSeen(), due <= 100 ? due : -1);
            x.passMinutes(1);
            Check.same("minutesUntilSeen of " + (due - 1), x.minutesUntilSeen(), due - 1);
        }
        Check.same("minutesUntilSeen of never", Check.train("mirror a clarity 0 offset 0;").minutesUntilSeen(), -1);
    }

    private static void promise36MinutesUntilDone() {
        PeriscopeTrain x = Check.train("mirror a clarity 60 offset -12; mirror b clarity 1 offset 90;");
        x.orderJob(0, CLEAN);
        x.orderJob(0, ALIGN);
        x.orderJob(1, REPLACE);
        x.orderJob(1, ALIGN);
        int[] due = {5, 8, 28, 29};
        for (int place = 0; place < 4; place++) {
            Check.same("minutesUntilDone " + place, x.minutesUntilDone(place), due[place]);
        }
        x.passMinutes(4);
        Check.same("minutesUntilDone in the last minute", x.minutesUntilDone(0), 1);
        Check.same("minutesUntilDone behind it", x.minutesUntilDone(3), 25);
        x.cancelJob(2);
        Check.same("minutesUntilDone with one cancelled", x.minutesUntilDone(2), 4 + 19);
        // What the orders do counts, too: the mirror gets dusty ahead of its cleaning.
        x = Check.train("mirror a clarity 100 offset 0; mirror b clarity 100 offset 0; dust b by 10;");
        x.orderJob(0, REPLACE);
        x.orderJob(1, CLEAN);
        Check.same("minutesUntilDone of a dusty mirror", x.minutesUntilDone(1), 20 + 11);
        // The job that is there, and not the same one when it is ordered anew.
        x = Check.train("mirror a clarity 95 offset 0; mirror b clarity 100 offset 0; clean a;");
        x.orderJob(0, CLEAN);
        x.orderJob(1, REPLACE);
        Check.same("minutesUntilDone", x.minutesUntilDone(0), 1);
        Check.same("minutesUntilDone", x.minutesUntilDone(1), 21);
        x.passMinutes(2);
        Check.same("minutesUntilDone of one ordered anew", x.minutesUntilDone(1), 20);
    }

    private static void promise36MinutesUntilDoneOfTheLast() {
        // Twelve jobs take 238 minutes at most, so none is not done by 300.
        StringBuilder text = new StringBuilder();
        for (int i = 0; i < 10; i++) {
            text.append("mirror m").append(i).append(" clarity 0 offset 90;");
        }
        PeriscopeTrain x = Check.train(text + "shake m0 by 180; shake m1 by 180; align m2; clean m2;");
        for (int i = 0; i < 10; i++) {
            x.orderJob(i, REPLACE);
        }
        x.orderJob(0, ALIGN);
        x.orderJob(1, ALIGN);
        for (int place = 0; place < 10; place++) {
            Check.same("minutesUntilDone " + place, x.minutesUntilDone(place), 20 * (place + 1));
        }
        Check.same("minutesUntilDone 10", x.minutesUntilDone(10), 219);
        Check.same("minutesUntilDone 11", x.minutesUntilDone(11), 238);
        x.passMinutes(100);
        x.passMinutes(100);
        Check.same("minutesUntilDone", x.minutesUntilDone(0), 19);
        Check.same("minutesUntilDone", x.minutesUntilDone(1), 38);
    }

    private static void promise36MinutesUntilDoneOfNoPlace() {
        PeriscopeTrain x = eleven();
        for (int size = 11; size >= 0; size--) {
            for (int wrong : new int[] {-1, size, 12, Integer.MIN_VALUE, Integer.MAX_VALUE}) {
                Check.refuses("minutesUntilDone " + wrong, x, Check.OUT, () -> x.minutesUntilDone(wrong));
            }
            if (size > 0) {
                Check.holds("minutesUntilDone of the last", x.minutesUntilDone(size - 1) > 0);
                x.cancelJob(size - 1);
            }
        }
    }

    private static void promise37BestToClean() {
        PeriscopeTrain x = Check.train("mirror a clarity 90 offset 0; mirror b clarity 50 offset 0;"
                + "mirror c clarity 60 offset 0;");
        Check.same("bestToClean", x.bestToClean(), 1);
        x.dustMirror(2, 11);
        Check.same("bestToClean", x.bestToClean(), 2);
        x.dustMirror(0, 42);
        Check.same("bestToClean", x.bestToClean(), 0);
        // Cleaned to its best clarity, which is 70: 80 * 70 are more than 100 * 55, and less than 100 * 57.
        x = Check.train("mirror a clarity 80 offset 0; mirror b clarity 100 offset 0; clean b when minute < 30;");
        x.passMinutes(30);
        x.dustMirror(1, 43);
        Check.same("bestToClean", x.bestToClean(), 0);
        x.dustMirror(1, 2);
        Check.same("bestToClean", x.bestToClean(), 1);
        // At once, so dust to come does not count; without a job, so none is covered, and a full queue does not matter.
        x = Check.train("mirror a clarity 90 offset 0; mirror b clarity 95 offset 0; dust a by -10; dust b by 90;");
        Check.same("bestToClean at once", x.bestToClean(), 0);
        x = eleven();
        x.orderJob(4, CLEAN);
        for (int mirror = 0; mirror < 5; mirror++) {
            x.turnMirror(mirror, 0);
        }
        Check.same("bestToClean with 12 jobs", x.bestToClean(), 3);
    }

    private static void promise37BestToCleanOfSeveral() {
        PeriscopeTrain x = Check.train("mirror a clarity 90 offset 0; mirror b clarity 50 offset 0;"
                + "mirror c clarity 50 offset 0;");
        Check.same("bestToClean", x.bestToClean(), 1);
        // The smallest number, and not the first one of the row.
        x.moveMirror(2, 0);
        Check.same("bestToClean behind a move", x.bestToClean(), 1);
        x = Check.train("mirror a clarity 99 offset 0; mirror b clarity 99 offset 0;");
        x.moveMirror(1, 0);
        Check.same("bestToClean behind a move", x.bestToClean(), 0);
    }

    private static void promise37BestToCleanOfNone() {
        Check.same("bestToClean of no mirrors", new PeriscopeTrain().bestToClean(), -1);
        PeriscopeTrain x = Check.train("mirror a clarity 100 offset 0; mirror b clarity 100 offset 0;");
        Check.same("bestToClean of clear mirrors", x.bestToClean(), -1);
        x.dustMirror(0, 1);
        Check.same("bestToClean of one with 99", x.bestToClean(), 0);
        // As much light as before is not more.
        x = Check.train("mirror a clarity 0 offset 0; mirror b clarity 0 offset 0;");
        Check.same("bestToClean with both at 0", x.bestToClean(), -1);
        x = Check.train("mirror a clarity 1 offset 0; mirror b clarity 1 offset 0; mirror c clarity 1 offset 0;");
        Check.same("bestToClean with 0 of light before", x.bestToClean(), 0);
        x = Check.train("mirror a clarity 50 offset 31; mirror b clarity 50 offset 0;");
        Check.same("bestToClean beyond the width", x.bestToClean(), -1);
        x.turnMirror(0, 30);
        Check.same("bestToClean at the width", x.bestToClean(), 0);
        // A covered mirror stays covered.
        x.orderJob(1, REPLACE);
        x.passMinutes(1);
        Check.same("bestToClean with a covered mirror", x.bestToClean(), -1);
        // A mirror beyond its best clarity does not get clearer, and none less clear.
        x = Check.train("mirror a clarity 100 offset 0; clean a when minute < 5;");
        x.passMinutes(5);
        Check.same("bestToClean of one beyond its best", x.bestToClean(), -1);
        x.dustMirror(0, 5);
        Check.same("bestToClean of one at its best", x.bestToClean(), -1);
        x.dustMirror(0, 1);
        Check.same("bestToClean of one below its best", x.bestToClean(), 0);
    }

    private static PeriscopeTrain rowOf(int second) {
        PeriscopeTrain x = Check.train("mirror a clarity 90 offset 0; mirror b clarity 90 offset 0;"
                + "mirror c clarity 90 offset 0;");
        x.turnMirror(1, second);
        return x;
    }

    private static void promise38BestOffset() {
        Check.same("bestOffset in line", rowOf(0).bestOffset(0), 0);
        // Behind a the tilt may be -60 to 60, and behind b, too: so a + b may be -30 to 30.
        int[] second = {29, 30, 31, 32, 45, 59, 60};
        int[] first = {0, 0, -1, -2, -15, -29, -30};
        for (int i = 0; i < second.length; i++) {
            Check.same("bestOffset with " + second[i], rowOf(second[i]).bestOffset(0), first[i]);
            Check.same("bestOffset with -" + second[i], rowOf(-second[i]).bestOffset(0), -first[i]);
        }
        // The offset that it has does not matter, and the last mirror's not at all.
        PeriscopeTrain x = rowOf(45);
        x.turnMirror(0, -20);
        Check.same("bestOffset of one that is turned", x.bestOffset(0), -15);
        Check.same("bestOffset of b", x.bestOffset(1), 0);
        Check.same("bestOffset of the last", x.bestOffset(2), 0);
        Check.same("offsetOf", x.offsetOf(0), -20);
        x.turnMirror(0, 90);
        Check.same("bestOffset of b behind 90", x.bestOffset(1), 0);
        // The most light at the end counts, and not whether it is seen.
        x = Check.train("limit 10000; mirror a clarity 10 offset 0; mirror b clarity 50 offset 31;"
                + "mirror c clarity 10 offset 0;");
        Check.same("bestOffset of light that is not seen", x.bestOffset(0), -1);
    }

    /**
     * With some offsets in a row there is light at the end, and with those on both sides none; so two as near to 0
     * have the most light only if 0 has it, too, and the greater one of two never comes to be told.
     */
    private static void promise38BestOffsetNearestTo0() {
        Check.same("bestOffset with light by all", Check.train("mirror a clarity 9 offset 5;").bestOffset(0), 0);
        Check.same("bestOffset with light by none", rowOf(61).bestOffset(0), 0);
        Check.same("bestOffset with light by none", rowOf(-61).bestOffset(0), 0);
        PeriscopeTrain x = rowOf(45);
        x.orderJob(2, REPLACE);
        x.passMinutes(1);
        Check.same("bestOffset with a covered mirror", x.bestOffset(0), 0);
        x.cancelJob(0);
        Check.same("bestOffset with none covered", x.bestOffset(0), -15);
        x = rowOf(45);
        x.dustMirror(0, 90);
        Check.same("bestOffset without light", x.bestOffset(0), 0);
        // From -30 to 0 and from 0 to 30: the nearest is 0.
        Check.same("bestOffset with 30", rowOf(30).bestOffset(0), 0);
        Check.same("bestOffset with -30", rowOf(-30).bestOffset(0), 0);
    }

    private static void promise38BestOffsetOf90() {
        // Behind a and b the tilt is 359 or 360, less twice 90 are 180.
        String text = "width 180; mirror a clarity 90 offset 90; mirror b clarity 90 offset 0;"
                + "mirror c clarity 90 offset 90; mirror d clarity 90 offset 0;";
        PeriscopeTrain x = Check.train(text);
        Check.same("bestOffset", x.bestOffset(1), -90);
        x.turnMirror(2, 89);
        Check.same("bestOffset", x.bestOffset(1), -89);
        x.turnMirror(0, -90);
        x.turnMirror(2, -90);
        Check.same("bestOffset", x.bestOffset(1), 90);
        x.turnMirror(2, -89);
        Check.same("bestOffset", x.bestOffset(1), 89);
        // It would have to be 91.
        x = Check.train(text.replace("180", "179"));
        Check.same("bestOffset beyond 90", x.bestOffset(1), 0);
    }

    private static void promise38BestOffsetOfNoMirror() {
        PeriscopeTrain x = Check.train(FIVE);
        for (int wrong : NO_MIRRORS) {
            Check.refuses("bestOffset of " + wrong, x, Check.OUT, () -> x.bestOffset(wrong));
        }
        PeriscopeTrain none = new PeriscopeTrain();
        Check.refuses("bestOffset of none", none, Check.OUT, () -> none.bestOffset(0));
    }

    private static void promise39MeanClarity() {
        Check.same("meanClarity of none", new PeriscopeTrain().meanClarity(), 0.0);
        Check.same("meanClarity of 0", Check.train("mirror a clarity 0 offset 0;").meanClarity(), 0.0);
        Check.same("meanClarity of 100", Check.train("mirror a clarity 100 offset 0;").meanClarity(), 100.0);
        PeriscopeTrain x = Check.train(FIVE);
        Check.same("meanClarity", x.meanClarity(), 64.0);
        x.dustMirror(0, 1);
        Check.same("meanClarity", x.meanClarity(), 63.8);
        x = Check.train("mirror a clarity 1 offset 0; mirror b clarity 0 offset 0; mirror c clarity 0 offset 0;");
        Check.same("meanClarity of a third", x.meanClarity(), 1.0 / 3.0);
        Check.tell(x, "");
        Check.same("meanClarity of none again", x.meanClarity(), 0.0);
    }

    /** The checksum by its own words, with whole numbers of any size, wrapped around at the end. */
    private static long digestOf(PeriscopeTrain x) {
        BigInteger d = BigInteger.valueOf(983);
        d = with(d, x.mirrors(), x.orders(), x.minutes(), x.tapeBytes(), x.lightAtEnd(), x.tiltAtEnd(),
                x.isSeen() ? 1 : 0);
        for (int mirror = 0; mirror < x.mirrors(); mirror++) {
            d = with(d, x.clarityOf(mirror), x.bestClarityOf(mirror), x.offsetOf(mirror), x.placeOf(mirror),
                    x.lightBehind(mirror), x.lostAt(mirror), x.tiltBehind(mirror), x.isCovered(mirror) ? 1 : 0);
        }
        d = with(d, x.jobs(), x.jobsDone(), x.minutesToGo());
        for (int place = 0; place < x.jobs(); place++) {
            d = with(d, x.kindOfJob(place), x.mirrorOfJob(place));
        }
        return d.longValue();
    }

    private static BigInteger with(BigInteger before, int... numbers) {
        BigInteger d = before;
        for (int number : numbers) {
            d = d.multiply(BigInteger.valueOf(31)).add(BigInteger.valueOf(number));
        }
        return d;
    }

    private static void promise40Digest() {
        PeriscopeTrain x = new PeriscopeTrain();
        Check.same("digest of a new object", x.digest(), digestOf(x));
        Check.write(x, "width");
        Check.same("digest with a tape", x.digest(), digestOf(x));
        x = Check.train("mirror a clarity 90 offset 10; mirror b clarity 50 offset -25; shake a by 1;");
        Check.same("digest of a train", x.digest(), digestOf(x));
        x.moveMirror(1, 0);
        Check.same("digest behind a move", x.digest(), digestOf(x));
        x.orderJob(1, ALIGN);
        x.orderJob(0, REPLACE);
        for (int minute = 0; minute < 30; minute++) {
            Check.same("digest of minute " + minute, x.digest(), digestOf(x));
            x.passMinutes(1);
        }
        long before = x.digest();
        Check.same("digest again", x.digest(), before);
    }

    private static void promise40DigestWrapsAround() {
        StringBuilder text = new StringBuilder();
        for (int i = 0; i < 10; i++) {
            text.append("mirror m").append(i).append(" clarity ").append(99 - 3 * i).append(" offset ").append(i)
                    .append(';');
        }
        PeriscopeTrain x = Check.train(text.toString());
        for (int i = 0; i < 12; i++) {
            x.orderJob(9 - i / 2, i % 2 + 1);
        }
        x.passMinutes(3);
        Check.same("digest of ten mirrors and 12 jobs", x.digest(), digestOf(x));
        // Ten numbers of a new object stay within 64 bits, those of a train with a mirror do not.
        Check.same("digest of a new object", new PeriscopeTrain().digest(), 805694892393667174L);
        Check.same("digest with a mirror", Check.train("mirror a clarity 90 offset 0;").digest(),
                4853686759521876899L);
    }
}
