/** Counts what is as due and what is not, and tells trains to the program. */
final class Check {
    static final Class<IndexOutOfBoundsException> OUT = IndexOutOfBoundsException.class;
    static final Class<IllegalArgumentException> ARGUMENT = IllegalArgumentException.class;
    static final Class<IllegalStateException> STATE = IllegalStateException.class;
    private static int passed = 0;
    private static int failed = 0;

    private Check() {
    }

    static void same(String what, long got, long due) {
        count(got == due, what + " answered " + got + ", due is " + due);
    }

    static void same(String what, double got, double due) {
        count(got == due, what + " answered " + got + ", due is " + due);
    }

    static void same(String what, String got, String due) {
        count(got.equals(due), what + " answered " + got + ", due is " + due);
    }

    static void holds(String what, boolean got) {
        count(got, what + " does not hold");
    }

    static void fails(String what, boolean got) {
        count(!got, what + " holds");
    }

    /** The call throws exactly this kind of exception, and changes nothing. */
    static void refuses(String what, PeriscopeTrain x, Class<? extends RuntimeException> kind, Runnable call) {
        long digest = x.digest();
        int error = x.errorAt();
        RuntimeException thrown = null;
        try {
            call.run();
        } catch (RuntimeException e) {
            thrown = e;
        }
        count(thrown != null && thrown.getClass() == kind, what + " threw " + thrown + ", due is " + kind);
        count(x.digest() == digest && x.errorAt() == error, what + " changed something");
    }

    static void end() {
        System.out.println(passed + " passed, " + failed + " failed");
        if (failed != 0) {
            System.exit(1);
        }
    }

    /** Puts a text onto the empty tape. */
    static void write(PeriscopeTrain x, String text) {
        StringBuilder padded = new StringBuilder(text);
        while (padded.length() % 20 != 0) {
            padded.append(' ');
        }
        for (int i = 0; i < padded.length(); i += 20) {
            x.feed(number(padded, i), number(padded, i + 4), number(padded, i + 8),
                    number(padded, i + 12), number(padded, i + 16));
        }
        x.trim(text.length());
    }

    private static int number(CharSequence text, int from) {
        int number = 0;
        for (int i = from; i < from + 4; i++) {
            number = number << 8 | text.charAt(i) & 255;
        }
        return number;
    }

    static int tell(PeriscopeTrain x, String text) {
        write(x, text);
        return x.teach();
    }

    /** The two answer the same from now on, also as minutes go by, as jobs are cancelled, and as they are told. */
    static void sameFromNowOn(String what, PeriscopeTrain x, PeriscopeTrain y) {
        same("errorAt " + what, x.errorAt(), y.errorAt());
        same("minutesUntilSeen " + what, x.minutesUntilSeen(), y.minutesUntilSeen());
        for (int minute = 0; minute < 40; minute++) {
            same("digest " + what + ", " + minute + " minutes later", x.digest(), y.digest());
            same("passMinutes " + what + ", " + minute + " minutes later", x.passMinutes(1), y.passMinutes(1));
            if (minute % 10 == 9 && x.jobs() > 0 && y.jobs() > 0) {
                same("cancelJob " + what, x.cancelJob(0), y.cancelJob(0));
            }
        }
        same("teach " + what, x.teach(), y.teach());
        same("errorAt of that teach " + what, x.errorAt(), y.errorAt());
        same("digest of that teach " + what, x.digest(), y.digest());
    }

    static PeriscopeTrain train(String text) {
        PeriscopeTrain x = new PeriscopeTrain();
        same("teach() of " + text, tell(x, text), 0);
        return x;
    }

    private static void count(boolean asDue, String otherwise) {
        if (asDue) {
            passed++;
        } else {
            failed++;
            System.out.println(testAtWork() + ": " + otherwise);
        }
    }

    /** The test that main called: its name tells the promise, or the part of "Terms", that it belongs to. */
    private static String testAtWork() {
        StackTraceElement[] calls = new Throwable().getStackTrace();
        int test = Math.max(0, calls.length - 2);
        return calls[test].getClassName() + "." + calls[test].getMethodName();
    }
}
