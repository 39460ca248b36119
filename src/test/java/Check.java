/** Counts what is as due and what is not, and tells trains to the program. */
final class Check {
    private static int passed = 0;
    private static int failed = 0;

    private Check() {
    }

    static void same(String what, long got, long due) {
        count(got == due, what + " answered " + got + ", due is " + due);
    }

    static void same(String what, double got, double due) {
        count(got == due, what + " answered " + got + ", due is " + due);
    }

    static void same(String what, String got, String due) {
        count(got.equals(due), what + " answered " + got + ", due is " + due);
    }

    static void holds(String what, boolean got) {
        count(got, what + " does not hold");
    }

    static void fails(String what, boolean got) {
        count(!got, what + " holds");
    }

    /** The call throws exactly this kind of exception, and changes nothing. */
    static void refuses(String what, PeriscopeTrain x, Class<? extends RuntimeException> kind, Runnable call) {
        long digest = x.digest();
        int error = x.errorAt();
        RuntimeException thrown = null;
        try {
            call.run();
        } catch (RuntimeException e) {
            thrown = e;
        }
        count(thrown != null && thrown.getClass() == kind, what + " threw " + thrown + ", due is " + kind);
        count(x.digest() == digest && x.errorAt() == error, what + " changed something");
    }

    static void end() {
        System.out.println(passed + " passed, " + failed + " failed");
        if (failed != 0) {
            System.exit(1);
        }
    }

    /** Puts a text onto the empty tape. */
    static void write(PeriscopeTrain x, String text) {
        StringBuilder padded = new StringBuilder(text);
        while (padded.length() % 20 != 0) {
            padded.append(' ');
        }
        for (int i = 0; i < padded.length(); i += 20) {
            x.feed(number(padded, i), number(padded, i + 4), number(padded, i + 8),
                    number(padded, i + 12), number(padded, i + 16));
        }
        x.trim(text.length());
    }

    private static int number(CharSequence text, int from) {
        int number = 0;
        for (int i = from; i < from + 4; i++) {
            number = number << 8 | text.charAt(i) & 255;
        }
        return number;
    }

    static int tell(PeriscopeTrain x, String text) {
        write(x, text);
        return x.teach();
    }

    static PeriscopeTrain train(String text) {
        PeriscopeTrain x = new PeriscopeTrain();
        same("teach() of " + text, tell(x, text), 0);
        return x;
    }

    private static void count(boolean asDue, String otherwise) {
        if (asDue) {
            passed++;
        } else {
            failed++;
            System.out.println(otherwise);
        }
    }
}
