import java.util.Arrays;

/** Promises 1 to 13, each sentence of them: a new object, the language, and the train. */
final class Promises1To13Test {
    private static final String A = "mirror a clarity 50 offset 3;";
    private static final int BLANKS = 0x20202020;

    private Promises1To13Test() {
    }

    public static void main(String[] args) {
        promise1NewObject();
        promise1ObjectsOfTheirOwn();
        promise2FeedAppendsTwentyBytes();
        promise2FeedHighestByteFirst();
        promise2FeedUpTo2000();
        promise3TrimKeepsTheFirstBytes();
        promise3TrimOf0ToAllBytes();
        promise3TrimOfOtherLengths();
        promise4TeachReturns0OrTheError();
        promise4TeachInThePlaceOfAllBefore();
        promise4TeachWithAnErrorLeavesAll();
        promise4TeachOfAnEmptyTape();
        promise5ErrorAt();
        promise6Mirrors();
        promise7Orders();
        promise8Minutes();
        promise9TapeBytes();
        promise10LightAtEnd();
        promise11TiltAtEnd();
        promise12IsSeen();
        promise13WorstMirror();
        promise13WorstMirrorOfSeveral();
        promise13WorstMirrorOfNone();
        Check.end();
    }

    private static void empty(String what, PeriscopeTrain x) {
        Check.same("mirrors " + what, x.mirrors(), 0);
        Check.same("orders " + what, x.orders(), 0);
        Check.same("minutes " + what, x.minutes(), 0);
        Check.same("tapeBytes " + what, x.tapeBytes(), 0);
        Check.same("lightAtEnd " + what, x.lightAtEnd(), 10000);
        Check.same("tiltAtEnd " + what, x.tiltAtEnd(), 0);
        Check.holds("isSeen " + what, x.isSeen());
        Check.same("jobs " + what, x.jobs(), 0);
        Check.same("jobsDone " + what, x.jobsDone(), 0);
        Check.same("minutesToGo " + what, x.minutesToGo(), 0);
        Check.same("meanClarity " + what, x.meanClarity(), 0.0);
        Check.same("bestToClean " + what, x.bestToClean(), -1);
        Check.same("minutesUntilSeen " + what, x.minutesUntilSeen(), 0);
        Check.same("lightAfter " + what, x.lightAfter(100), 10000);
    }

    private static void promise1NewObject() {
        PeriscopeTrain x = new PeriscopeTrain();
        empty("of a new object", x);
        Check.same("errorAt", x.errorAt(), -1);
        Check.refuses("worstMirror", x, Check.STATE, () -> x.worstMirror());
        Check.refuses("clarityOf", x, Check.OUT, () -> x.clarityOf(0));
        Check.refuses("mirrorAt", x, Check.OUT, () -> x.mirrorAt(0));
        Check.refuses("moveMirror", x, Check.OUT, () -> x.moveMirror(0, 0));
        Check.refuses("turnMirror", x, Check.OUT, () -> x.turnMirror(0, 0));
        Check.refuses("dustMirror", x, Check.OUT, () -> x.dustMirror(0, 0));
        Check.refuses("orderJob", x, Check.OUT, () -> x.orderJob(0, 0));
        Check.refuses("cancelJob", x, Check.OUT, () -> x.cancelJob(0));
        Check.refuses("kindOfJob", x, Check.OUT, () -> x.kindOfJob(0));
        Check.refuses("bestOffset", x, Check.OUT, () -> x.bestOffset(0));
        Check.refuses("trim", x, Check.ARGUMENT, () -> x.trim(1));
        Check.same("passMinutes", x.passMinutes(100), 0);
        Check.same("minutes", x.minutes(), 100);
    }

    private static void promise1ObjectsOfTheirOwn() {
        PeriscopeTrain x = Check.train(A + "shake a by 1;");
        PeriscopeTrain y = Check.train("mirror b clarity 70 offset 9; clean b;");
        x.passMinutes(3);
        Check.write(x, "width");
        empty("of a third object", new PeriscopeTrain());
        Check.same("clarityOf", y.clarityOf(0), 70);
        Check.same("minutes", y.minutes(), 0);
        Check.same("tapeBytes", y.tapeBytes(), 0);
        Check.same("offsetOf", x.offsetOf(0), 6);
    }

    private static void promise2FeedAppendsTwentyBytes() {
        PeriscopeTrain x = new PeriscopeTrain();
        Check.same("feed", x.feed(BLANKS, BLANKS, BLANKS, BLANKS, BLANKS), 20);
        Check.same("feed", x.feed(0, -1, Integer.MIN_VALUE, Integer.MAX_VALUE, 1), 40);
        Check.same("tapeBytes", x.tapeBytes(), 40);
        // They come behind those that are there, also behind those that a trim left.
        x.trim(0);
        Check.write(x, "width 1");
        Check.same("feed behind 7", x.feed(0x38303b20, BLANKS, BLANKS, BLANKS, BLANKS), 27);
        Check.same("teach of a width of 180", x.teach(), 0);
        Check.write(x, "width 1");
        Check.same("feed behind 7", x.feed(0x38313b20, BLANKS, BLANKS, BLANKS, BLANKS), 27);
        Check.same("teach of a width of 181", x.teach(), 5);
        Check.same("errorAt", x.errorAt(), 6);
    }

    /** Where the one byte is wrong that is not a blank. */
    private static void wrongByte(int a, int b, int c, int d, int e, int due) {
        PeriscopeTrain x = new PeriscopeTrain();
        x.feed(a, b, c, d, e);
        Check.same("teach", x.teach(), 1);
        Check.same("errorAt of the byte " + due, x.errorAt(), due);
    }

    private static void promise2FeedHighestByteFirst() {
        int[] number = new int[5];
        for (int at = 0; at < 20; at++) {
            for (int sign : new int[] {0, 1, 127, 128, 255, 'Z'}) {
                Arrays.fill(number, BLANKS);
                int shift = 24 - 8 * (at % 4);
                number[at / 4] = BLANKS & ~(255 << shift) | sign << shift;
                wrongByte(number[0], number[1], number[2], number[3], number[4], at);
            }
        }
    }

    private static void promise2FeedUpTo2000() {
        PeriscopeTrain x = new PeriscopeTrain();
        for (int fed = 1; fed <= 100; fed++) {
            Check.same("feed " + fed, x.feed(BLANKS, BLANKS, BLANKS, BLANKS, BLANKS), 20 * fed);
        }
        Check.refuses("feed to 2020", x, Check.STATE, () -> x.feed(1, 2, 3, 4, 5));
        x.trim(1999);
        Check.refuses("feed to 2019", x, Check.STATE, () -> x.feed(1, 2, 3, 4, 5));
        x.trim(1981);
        Check.refuses("feed to 2001", x, Check.STATE, () -> x.feed(1, 2, 3, 4, 5));
        Check.same("tapeBytes", x.tapeBytes(), 1981);
        x.trim(1980);
        Check.same("feed to 2000", x.feed(BLANKS, BLANKS, BLANKS, BLANKS, BLANKS), 2000);
        x.trim(1979);
        Check.same("feed to 1999", x.feed(BLANKS, BLANKS, BLANKS, BLANKS, BLANKS), 1999);
        Check.same("teach", x.teach(), 0);
        Check.same("feed of the empty tape", x.feed(BLANKS, BLANKS, BLANKS, BLANKS, BLANKS), 20);
    }

    private static void promise3TrimKeepsTheFirstBytes() {
        PeriscopeTrain x = new PeriscopeTrain();
        Check.write(x, "width 181;");
        Check.same("trim", x.trim(8), 8);
        Check.same("tapeBytes", x.tapeBytes(), 8);
        Check.same("teach of \"width 18\"", x.teach(), 1);
        Check.same("errorAt", x.errorAt(), 8);
        // Bytes that are cut off do not come back.
        Check.write(x, "width 5;????????");
        x.trim(8);
        x.feed(BLANKS, BLANKS, BLANKS, BLANKS, BLANKS);
        Check.same("teach", x.teach(), 0);
    }

    private static void promise3TrimOf0ToAllBytes() {
        PeriscopeTrain x = new PeriscopeTrain();
        Check.same("trim of nothing", x.trim(0), 0);
        Check.write(x, "width 5;");
        Check.same("trim to all", x.trim(8), 8);
        Check.same("trim to 1 less", x.trim(7), 7);
        Check.same("trim to 1", x.trim(1), 1);
        Check.same("trim to 0", x.trim(0), 0);
        Check.same("tapeBytes", x.tapeBytes(), 0);
        for (int i = 0; i < 100; i++) {
            x.feed(BLANKS, BLANKS, BLANKS, BLANKS, BLANKS);
        }
        Check.same("trim of a full tape", x.trim(2000), 2000);
        Check.same("trim of a full tape", x.trim(0), 0);
    }

    private static void promise3TrimOfOtherLengths() {
        PeriscopeTrain x = new PeriscopeTrain();
        int[] lengths = {0, 1, 19, 20, 40, 2000};
        for (int length : lengths) {
            while (x.tapeBytes() < length) {
                x.feed(BLANKS, BLANKS, BLANKS, BLANKS, BLANKS);
            }
            x.trim(length);
            for (int n : new int[] {length + 1, -1, -length - 1, Integer.MIN_VALUE, Integer.MAX_VALUE}) {
                Check.refuses("trim of " + length + " to " + n, x, Check.ARGUMENT, () -> x.trim(n));
            }
            Check.same("tapeBytes", x.tapeBytes(), length);
        }
    }

    private static void promise4TeachReturns0OrTheError() {
        PeriscopeTrain x = new PeriscopeTrain();
        Check.same("teach of a train", Check.tell(x, A), 0);
        Check.same("teach of no train", Check.tell(x, A + ";"), 1);
        Check.same("teach of a mirror told twice", Check.tell(x, A + A), 2);
        Check.same("teach of a name not told", Check.tell(x, "clean a;" + A), 3);
        Check.same("teach of 17 orders", Check.tell(x, A + "clean a;".repeat(17)), 4);
        Check.same("teach of a clarity of 101", Check.tell(x, "mirror a clarity 101 offset 3;"), 5);
        Check.same("teach of a train", Check.tell(x, A), 0);
    }

    /** A train with all that a teach puts an end to. */
    private static PeriscopeTrain used() {
        PeriscopeTrain x = Check.train(A + "mirror b clarity 100 offset 3; width 180; limit 0; shake a by 9;"
                + "clean b;");
        x.moveMirror(1, 0);
        x.passMinutes(5);
        x.orderJob(0, 2);
        x.orderJob(1, 1);
        x.dustMirror(1, 77);
        x.passMinutes(5);
        Check.same("jobs of the train ahead", x.jobs(), 3);
        Check.holds("jobsDone of the train ahead", x.jobsDone() > 0);
        Check.holds("minutesToGo of the train ahead", x.minutesToGo() > 0);
        return x;
    }

    private static void promise4TeachInThePlaceOfAllBefore() {
        String[] trains = {"", A, A + "mirror b clarity 70 offset - 4;", A + "shake a by 1 when minute < 3;",
            "width 9; limit 77; mirror c clarity 1 offset 1; mirror d clarity 1 offset 1; mirror e clarity 99 offset 1;"};
        for (String train : trains) {
            PeriscopeTrain x = used();
            Check.same("teach", Check.tell(x, train), 0);
            Check.sameFromNowOn("of a train in the place of another", x, Check.train(train));
        }
        PeriscopeTrain x = used();
        Check.same("teach", Check.tell(x, A + "mirror b clarity 70 offset 4;"), 0);
        Check.same("mirrors", x.mirrors(), 2);
        Check.same("orders", x.orders(), 0);
        Check.same("minutes", x.minutes(), 0);
        Check.same("jobs", x.jobs(), 0);
        Check.same("jobsDone", x.jobsDone(), 0);
        Check.same("minutesToGo", x.minutesToGo(), 0);
        Check.same("bestClarityOf", x.bestClarityOf(1), 100);
        Check.same("placeOf", x.placeOf(0), 0);
        Check.fails("isCovered", x.isCovered(0) || x.isCovered(1));
        // The width and the limit are 60 and 1000 again.
        x.turnMirror(0, 31);
        Check.same("lightBehind", x.lightBehind(1), 0);
        x.turnMirror(0, 0);
        x.turnMirror(1, 30);
        x.dustMirror(0, 35);
        Check.holds("isSeen at 1050", x.isSeen());
        x.dustMirror(0, 1);
        Check.fails("isSeen at 980", x.isSeen());
    }

    private static void promise4TeachWithAnErrorLeavesAll() {
        String other = "mirror c clarity 5 offset 5; mirror d clarity 6 offset 6; width 5; limit 5; dust c by 5;";
        String[] errors = {"clean", other + "clean", other + "?", other + "mirror c clarity 1 offset 1;",
            other + "clean a;", other + "clean d;".repeat(16), other + "width 181;",
            "mirror c clarity 5 offset 91;", "1000000"};
        for (String error : errors) {
            PeriscopeTrain x = used();
            PeriscopeTrain y = used();
            Check.same("teach is an error", Check.tell(x, error) > 0 ? 1 : 0, 1);
            Check.same("tapeBytes", x.tapeBytes(), 0);
            Check.same("digest", x.digest(), y.digest());
            Check.tell(y, error);
            Check.same("orders", x.orders(), 2);
            Check.sameFromNowOn("behind " + error, x, y);
            PeriscopeTrain late = used();
            late.passMinutes(10);
            PeriscopeTrain early = used();
            Check.tell(early, error);
            early.passMinutes(10);
            Check.same("digest 10 minutes behind " + error, early.digest(), late.digest());
        }
    }

    private static void promise4TeachOfAnEmptyTape() {
        PeriscopeTrain x = used();
        Check.same("teach", x.teach(), 0);
        empty("behind an empty tape", x);
        Check.same("errorAt", x.errorAt(), -1);
    }

    private static void promise5ErrorAt() {
        PeriscopeTrain x = new PeriscopeTrain();
        Check.same("errorAt without a teach", x.errorAt(), -1);
        Check.tell(x, "?");
        Check.same("errorAt at the beginning", x.errorAt(), 0);
        Check.tell(x, "width");
        Check.same("errorAt at the end", x.errorAt(), 5);
        Check.write(x, "limit 5;");
        x.passMinutes(1);
        x.lightAfter(3);
        Check.refuses("trim", x, Check.ARGUMENT, () -> x.trim(9));
        Check.same("errorAt of the latest teach", x.errorAt(), 5);
        x.teach();
        Check.same("errorAt without an error", x.errorAt(), -1);
        Check.tell(x, A + A);
        Check.same("errorAt of error 2", x.errorAt(), A.length() + 7);
        Check.tell(x, "clean b;");
        Check.same("errorAt of error 3", x.errorAt(), 6);
        x.teach();
        Check.same("errorAt of an empty tape", x.errorAt(), -1);
    }

    private static String mirrors(int count) {
        StringBuilder text = new StringBuilder();
        for (int i = 0; i < count; i++) {
            text.append("mirror m").append(i).append(" clarity 100 offset 90;");
        }
        return text.toString();
    }

    private static void promise6Mirrors() {
        for (int count = 0; count <= 10; count++) {
            PeriscopeTrain x = Check.train(mirrors(count) + "width 5; limit 5;");
            Check.same("mirrors", x.mirrors(), count);
            Check.tell(x, mirrors(11));
            Check.same("mirrors behind an error", x.mirrors(), count);
        }
    }

    private static void promise7Orders() {
        for (int count = 0; count <= 16; count++) {
            PeriscopeTrain x = Check.train(A + "width 5;" + "clean a;".repeat(count) + "limit 5;");
            Check.same("orders", x.orders(), count);
            x.passMinutes(1);
            Check.same("orders later", x.orders(), count);
            Check.tell(x, A + "clean a;".repeat(17));
            Check.same("orders behind an error", x.orders(), count);
        }
        PeriscopeTrain x = Check.train(A + "shake a by 1; dust a by 1; clean a; align a; replace a;");
        Check.same("orders of all kinds", x.orders(), 5);
    }

    private static void promise8Minutes() {
        PeriscopeTrain x = Check.train(A + "clean a;");
        Check.same("minutes", x.minutes(), 0);
        x.passMinutes(1);
        Check.same("minutes", x.minutes(), 1);
        x.passMinutes(100);
        Check.same("minutes", x.minutes(), 101);
        x.lightAfter(100);
        x.minutesUntilSeen();
        x.orderJob(0, 2);
        x.minutesUntilDone(0);
        Check.refuses("passMinutes", x, Check.ARGUMENT, () -> x.passMinutes(101));
        Check.same("minutes behind questions", x.minutes(), 101);
        Check.tell(x, "?");
        Check.same("minutes behind an error", x.minutes(), 101);
        for (int i = 0; i < 200; i++) {
            x.passMinutes(100);
        }
        Check.same("minutes", x.minutes(), 20101);
        x.teach();
        Check.same("minutes of a train begun anew", x.minutes(), 0);
    }

    private static void promise9TapeBytes() {
        PeriscopeTrain x = new PeriscopeTrain();
        Check.same("tapeBytes", x.tapeBytes(), 0);
        for (int fed = 1; fed <= 100; fed++) {
            x.feed(0, 0, 0, 0, 0);
            Check.same("tapeBytes", x.tapeBytes(), 20 * fed);
        }
        Check.refuses("feed", x, Check.STATE, () -> x.feed(0, 0, 0, 0, 0));
        Check.same("tapeBytes of a full tape", x.tapeBytes(), 2000);
        x.trim(7);
        Check.same("tapeBytes behind a trim", x.tapeBytes(), 7);
        x.passMinutes(1);
        Check.same("tapeBytes behind a minute", x.tapeBytes(), 7);
        Check.same("teach", x.teach(), 1);
        Check.same("tapeBytes behind a teach", x.tapeBytes(), 0);
    }

    private static void promise10LightAtEnd() {
        Check.same("lightAtEnd of none", Check.train("").lightAtEnd(), 10000);
        Check.same("lightAtEnd of 100", Check.train("mirror a clarity 100 offset 0;").lightAtEnd(), 10000);
        Check.same("lightAtEnd of 0", Check.train("mirror a clarity 0 offset 0;").lightAtEnd(), 0);
        Check.same("lightAtEnd of 1", Check.train("mirror a clarity 1 offset 0;").lightAtEnd(), 100);
        // Of the mirror that is the last one of the row.
        PeriscopeTrain x = Check.train("mirror a clarity 50 offset 31; mirror b clarity 80 offset 0;");
        Check.same("lightAtEnd as told", x.lightAtEnd(), 0);
        x.moveMirror(0, 1);
        Check.same("lightAtEnd behind a move", x.lightAtEnd(), 4000);
        Check.same("lightBehind the last one", x.lightBehind(0), 4000);
        x.dustMirror(0, 1);
        Check.same("lightAtEnd behind dust", x.lightAtEnd(), 3920);
        x.orderJob(1, 2);
        Check.same("lightAtEnd with a job that waits", x.lightAtEnd(), 3920);
        x.passMinutes(1);
        Check.same("lightAtEnd with a covered mirror", x.lightAtEnd(), 0);
        x.cancelJob(0);
        Check.same("lightAtEnd with none covered", x.lightAtEnd(), 3920);
    }

    private static void promise11TiltAtEnd() {
        Check.same("tiltAtEnd of none", Check.train("").tiltAtEnd(), 0);
        Check.same("tiltAtEnd of 90", Check.train("mirror a clarity 5 offset 90;").tiltAtEnd(), 180);
        Check.same("tiltAtEnd of -90", Check.train("mirror a clarity 5 offset -90;").tiltAtEnd(), -180);
        PeriscopeTrain x = Check.train(mirrors(10));
        Check.same("tiltAtEnd of ten", x.tiltAtEnd(), 1800);
        for (int mirror = 0; mirror < 10; mirror++) {
            x.turnMirror(mirror, -90);
            Check.same("tiltAtEnd behind a turn", x.tiltAtEnd(), 1800 - 360 * (mirror + 1));
        }
        x.moveMirror(0, 9);
        Check.same("tiltAtEnd behind a move", x.tiltAtEnd(), -1800);
    }

    private static void promise12IsSeen() {
        Check.holds("isSeen of none", Check.train("limit 10000; width 0;").isSeen());
        PeriscopeTrain x = Check.train("limit 4000; width 20; mirror a clarity 80 offset 10;"
                + "mirror b clarity 50 offset 0;");
        Check.holds("isSeen at the limit and the width", x.isSeen());
        x.turnMirror(1, 1);
        Check.fails("isSeen beyond the width", x.isSeen());
        x.turnMirror(1, -20);
        Check.holds("isSeen at the opposite", x.isSeen());
        x.turnMirror(1, -21);
        Check.fails("isSeen beyond the opposite", x.isSeen());
        x.turnMirror(1, 0);
        x.dustMirror(1, 1);
        Check.fails("isSeen below the limit", x.isSeen());
    }

    private static void promise13WorstMirror() {
        Check.same("worstMirror of one", Check.train(A).worstMirror(), 0);
        PeriscopeTrain x = Check.train("mirror a clarity 90 offset 0; mirror b clarity 80 offset 0;"
                + "mirror c clarity 70 offset 0;");
        // 1000, 1800 and 2160 are lost.
        Check.same("worstMirror", x.worstMirror(), 2);
        x.dustMirror(1, 10);
        Check.same("worstMirror of 2700 and 1890", x.worstMirror(), 1);
        // It is not the mirror of the least clarity: 4000 of 10000, and 3300 of 6000 are lost.
        x = Check.train("mirror a clarity 60 offset 0; mirror b clarity 45 offset 0;");
        Check.same("worstMirror", x.worstMirror(), 0);
        // All is lost at a mirror that is dark.
        x = Check.train("mirror a clarity 70 offset 31; mirror b clarity 100 offset 0; mirror c clarity 0 offset 0;");
        Check.same("worstMirror beyond the width", x.worstMirror(), 1);
        x.orderJob(0, 2);
        x.passMinutes(1);
        Check.same("worstMirror that is covered", x.worstMirror(), 0);
        x = Check.train(mirrors(10).replace("90;", "0;"));
        for (int mirror = 9; mirror >= 0; mirror--) {
            x.dustMirror(mirror, 50);
            Check.same("worstMirror of ten", x.worstMirror(), mirror);
        }
    }

    private static void promise13WorstMirrorOfSeveral() {
        // 5000 are lost at a, and 5000 at b: the first one of the row, and not of the numbers.
        PeriscopeTrain x = Check.train("mirror a clarity 50 offset 0; mirror b clarity 0 offset 0;");
        Check.same("worstMirror", x.worstMirror(), 0);
        x = Check.train("mirror a clarity 0 offset 0; mirror b clarity 50 offset 0;");
        x.moveMirror(1, 0);
        Check.same("worstMirror", x.worstMirror(), 1);
        // Nothing is lost: the first one of the row, too.
        x = Check.train("mirror a clarity 100 offset 0; mirror b clarity 100 offset 0; mirror c clarity 100 offset 0;");
        Check.same("worstMirror without a loss", x.worstMirror(), 0);
        x.moveMirror(2, 0);
        Check.same("worstMirror without a loss", x.worstMirror(), 2);
        x.moveMirror(2, 2);
        Check.same("worstMirror without a loss", x.worstMirror(), 0);
        x.dustMirror(2, 1);
        Check.same("worstMirror of a loss of 100", x.worstMirror(), 2);
    }

    private static void promise13WorstMirrorOfNone() {
        PeriscopeTrain x = new PeriscopeTrain();
        Check.refuses("worstMirror", x, Check.STATE, () -> x.worstMirror());
        Check.tell(x, A);
        Check.same("worstMirror", x.worstMirror(), 0);
        Check.tell(x, "width 5;");
        Check.refuses("worstMirror", x, Check.STATE, () -> x.worstMirror());
    }
}
