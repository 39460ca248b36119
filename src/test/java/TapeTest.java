/** Promises 1, 2, 3 and 9: a new object, and the bytes of the tape. */
final class TapeTest {
    private TapeTest() {
    }

    public static void main(String[] args) {
        newObject();
        feedAppendsTheHighestByteFirst();
        feedStopsAt2000();
        trimKeepsTheFirstBytes();
        trimRefusesOtherLengths();
        teachEmptiesTheTape();
        Check.end();
    }

    private static void newObject() {
        PeriscopeTrain x = new PeriscopeTrain();
        Check.same("mirrors of a new object", x.mirrors(), 0);
        Check.same("orders of a new object", x.orders(), 0);
        Check.same("minutes of a new object", x.minutes(), 0);
        Check.same("tapeBytes of a new object", x.tapeBytes(), 0);
        Check.same("errorAt of a new object", x.errorAt(), -1);
        Check.same("lightAtEnd of a new object", x.lightAtEnd(), 10000);
        Check.same("tiltAtEnd of a new object", x.tiltAtEnd(), 0);
        Check.holds("isSeen of a new object", x.isSeen());
        Check.same("jobs of a new object", x.jobs(), 0);
        Check.same("jobsDone of a new object", x.jobsDone(), 0);
        Check.same("minutesToGo of a new object", x.minutesToGo(), 0);
        Check.same("meanClarity of a new object", x.meanClarity(), 0.0);
        Check.same("minutesUntilSeen of a new object", x.minutesUntilSeen(), 0);
        Check.same("bestToClean of a new object", x.bestToClean(), -1);
        Check.same("passMinutes of a new object", x.passMinutes(100), 0);
        Check.same("minutes then", x.minutes(), 100);
        PeriscopeTrain other = new PeriscopeTrain();
        Check.same("minutes of another new object", other.minutes(), 0);
    }

    private static void feedAppendsTheHighestByteFirst() {
        PeriscopeTrain x = new PeriscopeTrain();
        // "widt" "h 7;" and blanks, by their bytes.
        Check.same("feed", x.feed(0x77696474, 0x6820373b, 0x20202020, 0x20202020, 0x2020200a), 20);
        Check.same("tapeBytes", x.tapeBytes(), 20);
        Check.same("teach", x.teach(), 0);
        // Five different numbers: the first byte with which no token begins tells their order.
        x.feed(0x20202020, 0x20202020, 0x20202020, 0x20202020, 0x202020ff);
        x.teach();
        Check.same("errorAt of a wrong byte 20", x.errorAt(), 19);
        x.feed(0x20202020, 0x20202020, 0x20202020, 0x2020ff20, 0x20202020);
        x.teach();
        Check.same("errorAt of a wrong byte 15", x.errorAt(), 14);
        x.feed(0x20202020, 0x20202020, 0x20ff2020, 0x20202020, 0x20202020);
        x.teach();
        Check.same("errorAt of a wrong byte 10", x.errorAt(), 9);
        x.feed(0x20202020, 0xff202020, 0x20202020, 0x20202020, 0x20202020);
        x.teach();
        Check.same("errorAt of a wrong byte 5", x.errorAt(), 4);
        x.feed(0x20200020, 0x20202020, 0x20202020, 0x20202020, 0x20202020);
        x.teach();
        Check.same("errorAt of a wrong byte 3", x.errorAt(), 2);
        // Two calls stand one behind the other.
        x.feed(0x20202020, 0x20202020, 0x20202020, 0x20202020, 0x20202077);
        Check.same("the second feed", x.feed(0x69647468, 0x20363b20, 0x20202020, 0x20202020, 0x20202020), 40);
        Check.same("teach of a word over two calls", x.teach(), 0);
    }

    private static void feedStopsAt2000() {
        PeriscopeTrain x = new PeriscopeTrain();
        for (int i = 1; i <= 100; i++) {
            Check.same("feed " + i, x.feed(0x20202020, 0x20202020, 0x20202020, 0x20202020, 0x20202020), 20 * i);
        }
        Check.refuses("feed over 2000", x, IllegalStateException.class, () -> x.feed(1, 2, 3, 4, 5));
        Check.same("tapeBytes", x.tapeBytes(), 2000);
        x.trim(1981);
        Check.refuses("feed to 2001", x, IllegalStateException.class, () -> x.feed(1, 2, 3, 4, 5));
        x.trim(1980);
        Check.same("feed to 2000", x.feed(0x20202020, 0x20202020, 0x20202020, 0x20202020, 0x20202021), 2000);
        Check.same("teach of 2000 bytes", x.teach(), 1);
        Check.same("errorAt of the last of 2000 bytes", x.errorAt(), 1999);
    }

    private static void trimKeepsTheFirstBytes() {
        PeriscopeTrain x = new PeriscopeTrain();
        Check.write(x, "limit 7;!");
        Check.same("trim", x.trim(8), 8);
        Check.same("tapeBytes", x.tapeBytes(), 8);
        Check.same("trim to the same", x.trim(8), 8);
        Check.same("teach", x.teach(), 0);
        Check.write(x, "limit 7;");
        Check.same("trim to nothing", x.trim(0), 0);
        Check.same("tapeBytes of nothing", x.tapeBytes(), 0);
        Check.same("trim of nothing to nothing", x.trim(0), 0);
    }

    private static void trimRefusesOtherLengths() {
        PeriscopeTrain x = new PeriscopeTrain();
        Check.refuses("trim(1) of nothing", x, IllegalArgumentException.class, () -> x.trim(1));
        Check.refuses("trim(-1)", x, IllegalArgumentException.class, () -> x.trim(-1));
        Check.write(x, "limit 7;");
        Check.refuses("trim(9) of 8", x, IllegalArgumentException.class, () -> x.trim(9));
        Check.refuses("trim(least)", x, IllegalArgumentException.class, () -> x.trim(Integer.MIN_VALUE));
        Check.refuses("trim(most)", x, IllegalArgumentException.class, () -> x.trim(Integer.MAX_VALUE));
        Check.same("tapeBytes", x.tapeBytes(), 8);
    }

    private static void teachEmptiesTheTape() {
        PeriscopeTrain x = new PeriscopeTrain();
        Check.same("teach", Check.tell(x, "limit 7;"), 0);
        Check.same("tapeBytes behind it", x.tapeBytes(), 0);
        Check.same("teach with an error", Check.tell(x, "limit;"), 1);
        Check.same("tapeBytes behind the error", x.tapeBytes(), 0);
    }
}
