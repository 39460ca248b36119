/** Promises 37 to 40: what would help the most, the mean, and the checksum. */
final class BestTest {
    private static final Class<IndexOutOfBoundsException> OUT = IndexOutOfBoundsException.class;

    private BestTest() {
    }

    public static void main(String[] args) {
        cleaning();
        cleaningInVain();
        cleaningAtWork();
        offset();
        offsetOfTwo();
        wrongOffsets();
        mean();
        digestOfNothing();
        digestOfAll();
        Check.end();
    }

    private static void cleaning() {
        PeriscopeTrain x = Check.train("mirror a clarity 90 offset 0; mirror b clarity 50 offset 0;"
                + "mirror c clarity 60 offset 0;");
        long digest = x.digest();
        Check.same("bestToClean", x.bestToClean(), 1);
        Check.same("digest behind bestToClean", x.digest(), digest);
        x = Check.train("mirror a clarity 90 offset 0; mirror b clarity 50 offset 0; mirror c clarity 50 offset 0;");
        Check.same("bestToClean of two", x.bestToClean(), 1);
        x.moveMirror(2, 0);
        Check.same("bestToClean of two, by their numbers", x.bestToClean(), 1);
        x = Check.train("mirror a clarity 99 offset 0;");
        Check.same("bestToClean of one", x.bestToClean(), 0);
    }

    private static void cleaningInVain() {
        PeriscopeTrain x = Check.train("mirror a clarity 100 offset 0; mirror b clarity 100 offset 0;");
        Check.same("bestToClean of clean mirrors", x.bestToClean(), -1);
        x = Check.train("mirror a clarity 0 offset 0; mirror b clarity 0 offset 0;");
        Check.same("bestToClean of two without light", x.bestToClean(), -1);
        x = Check.train("mirror a clarity 50 offset 31; mirror b clarity 50 offset 0;");
        Check.same("bestToClean of a row out of line", x.bestToClean(), -1);
        Check.same("bestToClean of none", new PeriscopeTrain().bestToClean(), -1);
        // Cleaned a hundred times, a mirror has no best clarity left.
        x = Check.train("mirror a clarity 100 offset 0; clean a;");
        x.passMinutes(100);
        x.dustMirror(0, 30);
        Check.same("bestToClean of a worn mirror", x.bestToClean(), -1);
        // The best clarity counts: b can only come to 70, so a is the better one.
        x = Check.train("mirror a clarity 80 offset 0; mirror b clarity 100 offset 0; clean b when minute < 30;");
        x.passMinutes(30);
        x.dustMirror(1, 40);
        Check.same("clarityOf", x.clarityOf(1), 60);
        Check.same("bestClarityOf", x.bestClarityOf(1), 70);
        Check.same("bestToClean", x.bestToClean(), 0);
        x.dustMirror(1, 5);
        // 80 * 70 is 5600, 100 * 55 is 5500.
        Check.same("bestToClean", x.bestToClean(), 1);
    }

    private static void cleaningAtWork() {
        PeriscopeTrain x = Check.train("mirror a clarity 50 offset 0; mirror b clarity 60 offset 0;");
        x.orderJob(0, 0);
        Check.same("bestToClean with a job that waits", x.bestToClean(), 0);
        x.passMinutes(1);
        Check.same("bestToClean with a covered mirror", x.bestToClean(), -1);
    }

    private static void offset() {
        // Behind a the tilt is 100, so c has light if b adds 0 or turns it back.
        PeriscopeTrain x = Check.train("width 100; mirror a clarity 90 offset 50; mirror b clarity 90 offset 80;"
                + "mirror c clarity 90 offset 0;");
        long digest = x.digest();
        Check.same("lightAtEnd", x.lightAtEnd(), 0);
        Check.same("bestOffset", x.bestOffset(1), 0);
        Check.same("bestOffset of a mirror without light", x.bestOffset(2), 0);
        Check.same("digest behind bestOffset", x.digest(), digest);
        // Light at the end is all that counts, and not whether it is seen.
        x = Check.train("mirror a clarity 90 offset 30; mirror b clarity 90 offset 30;");
        Check.same("bestOffset of the last", x.bestOffset(1), 0);
        x.orderJob(1, 0);
        x.passMinutes(1);
        Check.same("bestOffset of a covered mirror", x.bestOffset(1), 0);
    }

    private static void offsetOfTwo() {
        // The tilt ahead of c is that behind a and 140 more: a can be -30 to 30 by b, and -100 to -40 by c.
        PeriscopeTrain x = Check.train("mirror a clarity 90 offset 0; mirror b clarity 90 offset 70;"
                + "mirror c clarity 90 offset 0;");
        Check.same("bestOffset of none", x.bestOffset(0), 0);
        // 90 more: a can be -30 to 30 by b, and -75 to -15 by c.
        x = Check.train("mirror a clarity 90 offset 0; mirror b clarity 90 offset 45; mirror c clarity 90 offset 0;");
        Check.same("bestOffset below 0", x.bestOffset(0), -15);
        x.turnMirror(1, -45);
        Check.same("bestOffset above 0", x.bestOffset(0), 15);
        x.turnMirror(1, 31);
        Check.same("bestOffset of -1", x.bestOffset(0), -1);
        x.turnMirror(1, -31);
        Check.same("bestOffset of 1", x.bestOffset(0), 1);
        x.turnMirror(1, 60);
        Check.same("bestOffset at the width", x.bestOffset(0), -30);
        x.turnMirror(1, 61);
        Check.same("bestOffset beyond the width", x.bestOffset(0), 0);
        // Ahead of b the tilt is 180, behind c 180 more than behind b: only -90 of b keeps d in light.
        x = Check.train("width 180; mirror a clarity 90 offset 90; mirror b clarity 90 offset 90;"
                + "mirror c clarity 90 offset 90; mirror d clarity 90 offset 0;");
        Check.same("bestOffset at least", x.bestOffset(1), -90);
        x = Check.train("width 180; mirror a clarity 90 offset -90; mirror b clarity 90 offset -90;"
                + "mirror c clarity 90 offset -90; mirror d clarity 90 offset 0;");
        Check.same("bestOffset at most", x.bestOffset(1), 90);
    }

    private static void wrongOffsets() {
        PeriscopeTrain none = new PeriscopeTrain();
        Check.refuses("bestOffset of none", none, OUT, () -> none.bestOffset(0));
        PeriscopeTrain x = Check.train("mirror a clarity 90 offset 0;");
        Check.refuses("bestOffset of 1", x, OUT, () -> x.bestOffset(1));
        Check.refuses("bestOffset of -1", x, OUT, () -> x.bestOffset(-1));
    }

    private static void mean() {
        PeriscopeTrain x = Check.train("mirror a clarity 90 offset 0; mirror b clarity 55 offset 0;");
        Check.same("meanClarity", x.meanClarity(), 72.5);
        x.dustMirror(0, 90);
        Check.same("meanClarity", x.meanClarity(), 27.5);
        x = Check.train("mirror a clarity 1 offset 0; mirror b clarity 0 offset 0; mirror c clarity 0 offset 0;");
        Check.same("meanClarity of a third", x.meanClarity(), 1.0 / 3.0);
        Check.same("meanClarity of none", new PeriscopeTrain().meanClarity(), 0.0);
    }

    private static void digestOfNothing() {
        long[] numbers = {0, 0, 0, 0, 10000, 0, 1, 0, 0, 0};
        Check.same("digest of a new object", new PeriscopeTrain().digest(), checksum(numbers));
        PeriscopeTrain x = new PeriscopeTrain();
        Check.write(x, "width");
        numbers[3] = 5;
        Check.same("digest with a tape", x.digest(), checksum(numbers));
    }

    private static void digestOfAll() {
        PeriscopeTrain x = Check.train("mirror a clarity 90 offset 10; mirror b clarity 50 offset -25;"
                + "mirror c clarity 33 offset 4; shake a by 1;");
        x.moveMirror(2, 0);
        x.orderJob(1, 0);
        x.orderJob(0, 1);
        x.orderJob(1, 2);
        x.passMinutes(2);
        Check.write(x, "abc");
        long[] numbers = {3, 1, 2, 3, 0, -18, 0,
            90, 100, 12, 1, 2970, 330, 32, 0,
            50, 100, -25, 2, 0, 2970, -18, 1,
            33, 100, 4, 0, 3300, 6700, 8, 0,
            3, 0, 4, 0, 1, 1, 0, 2, 1};
        Check.same("digest", x.digest(), checksum(numbers));
        x.passMinutes(4);
        // b is clean, at 100 of 99 then; 2970 go through, and are seen.
        long[] later = {3, 1, 6, 3, 2970, -10, 1,
            90, 100, 16, 1, 2970, 330, 40, 0,
            100, 99, -25, 2, 2970, 0, -10, 0,
            33, 100, 4, 0, 3300, 6700, 8, 0,
            2, 1, 0, 1, 0, 2, 1};
        Check.same("digest later", x.digest(), checksum(later));
    }

    private static long checksum(long[] numbers) {
        long d = 983;
        for (long number : numbers) {
            d = d * 31 + number;
        }
        return d;
    }
}
