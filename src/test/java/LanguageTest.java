/** Promises 4 and 5: which tapes are trains, and where the others have which error. */
final class LanguageTest {
    private static final String A = "mirror a clarity 50 offset 3;";

    private LanguageTest() {
    }

    public static void main(String[] args) {
        lines();
        words();
        numbers();
        signs();
        blanks();
        endOfTheTape();
        grammarOfOrders();
        grammarOfTests();
        grammarOfSums();
        depth();
        numberOfTokens();
        errorTwo();
        errorThree();
        errorFour();
        errorFive();
        orderOfErrors();
        anErrorLeavesAll();
        aTrainBeginsAnew();
        Check.end();
    }

    private static void good(String text) {
        wrong(text, 0, -1);
    }

    private static void wrong(String text, int error, int position) {
        PeriscopeTrain x = new PeriscopeTrain();
        Check.same("teach() of " + text, Check.tell(x, text), error);
        Check.same("errorAt() of " + text, x.errorAt(), position);
    }

    /** The error 1 at the first byte of the last part. */
    private static void misfit(String ahead, String rest) {
        wrong(ahead + rest, 1, ahead.length());
    }

    private static void lines() {
        good("");
        good(A);
        good("width 60;");
        good("limit 1000; width 0; limit 0; width 180; limit 10000;");
        good("mirror a clarity 0 offset - 90; mirror b clarity 100 offset 90;");
        misfit("", ";");
        misfit(A, ";");
        misfit("width 60", "");
        misfit("width ", ";");
        misfit("width ", "- 5;");
        misfit("width ", "a;");
        misfit("limit ", "limit 5;");
        misfit("width 5 ", "5;");
        misfit("width 5 ", "width 5;");
        misfit("", "a;");
        misfit("", "5;");
        misfit("", "clarity 5;");
        misfit("mirror ", "clarity 50 offset 3;");
        misfit("mirror ", "5 clarity 50 offset 3;");
        misfit("mirror a ", "50 offset 3;");
        misfit("mirror a clarity ", "offset 3;");
        misfit("mirror a clarity ", "- 5 offset 3;");
        misfit("mirror a clarity 50 ", "3;");
        misfit("mirror a clarity 50 offset ", ";");
        misfit("mirror a clarity 50 offset - ", ";");
        misfit("mirror a clarity 50 offset - ", "- 3;");
        misfit("mirror a clarity 50 offset ", "(3);");
        misfit("mirror ", ";");
        misfit("mirror a ", ";");
        misfit("mirror a clarity ", ";");
        misfit("mirror a clarity 50 ", ";");
        misfit("mirror a clarity 50 offset 3 ", "when seen;");
        misfit("mirror a ", "offset 3 clarity 50;");
    }

    private static void words() {
        good("mirror abcdefghij clarity 50 offset 3;");
        misfit("mirror ", "abcdefghijk clarity 50 offset 3;");
        misfit("", "abcdefghijk");
        good("mirror a123456789 clarity 50 offset 3;");
        misfit("mirror ", "a1234567890 clarity 50 offset 3;");
        misfit("mirror a ", "claritys 50 offset 3;");
        misfit("mirror a ", "clarit 50 offset 3;");
        misfit("mirror a ", "clarity50 offset 3;");
        misfit("", "Mirror a clarity 50 offset 3;");
        misfit("mirror a", "B clarity 50 offset 3;");
        misfit("mirror a", "_ clarity 50 offset 3;");
        good("mirror z clarity 50 offset 3; clean z;");
        good("mirror mirrors clarity 50 offset 3; clean mirrors;");
        String[] keywords = ("mirror clarity offset width limit shake by dust clean align replace when minute light"
                + " jobs lost tilt best of seen waits not and or min max").split(" ");
        for (String keyword : keywords) {
            misfit("mirror ", keyword + " clarity 50 offset 3;");
            good("mirror " + keyword + "0 clarity 50 offset 3; align " + keyword + "0;");
        }
    }

    private static void numbers() {
        good(A + "shake a by 999999;");
        misfit(A + "shake a by ", "1000000;");
        good("width 000060;");
        misfit("width ", "0000060;");
        // A number ends where no digit follows, so no blank has to stand there.
        good("mirror a clarity 50offset 3;clean a when 5<6and 6<7or seen;");
        misfit("width 6", "x;");
    }

    private static void signs() {
        good(A + "clean a when 1<=2and 2>=1and 1<2and 2>1and 1=1;");
        misfit(A + "clean a when 1 < ", "= 2;");
        misfit(A + "clean a when 1 > ", "= 2;");
        misfit(A + "clean a when 1 =", "< 2;");
        misfit(A + "clean a when 1 =", "= 2;");
        misfit(A + "clean a when 1 <", "> 2;");
        misfit(A + "clean a when 1 <=", "= 2;");
        misfit(A + "clean a when 1 <", "<= 2;");
        String others = "!\"#$%&'.:?@\\^_`{|}~A\t\r\u0000\u001f\u007f\u0080\u00a0\u00e4\u00ff";
        for (int i = 0; i < others.length(); i++) {
            misfit("width 5;", others.substring(i, i + 1) + "width 5;");
        }
    }

    private static void blanks() {
        good(" \n width\n5 \n; \n");
        good("\n");
        good(" ");
        misfit("width 5;", "\twidth 5;");
        misfit("", "width5;");
        good("width 5;width 6;");
        misfit(A + "clean ", "when seen;");
        misfit(A + "clean awhen ", "seen;");
    }

    private static void endOfTheTape() {
        misfit("width 5  \n ", "");
        misfit("mirror", "");
        misfit("mirror a ", "");
        misfit(A + "clean a", "");
        misfit(A + "clean a when ", "");
        misfit(A + "shake a by 3 +", "");
        misfit(A + "shake a by (3", "");
        misfit(A + "clean a when [seen", "");
        wrong("wid", 1, 0);
        wrong("width", 1, 5);
    }

    private static void grammarOfOrders() {
        good(A + "shake a by 1; dust a by 2; clean a; align a; replace a;");
        good(A + "shake a by 1 when seen; dust a by 2 when seen; clean a when seen; align a when seen;");
        good(A + "replace a when seen;");
        misfit(A + "shake a", ";");
        misfit(A + "dust a ", "when seen;");
        misfit(A + "shake a by ", ";");
        misfit(A + "shake a by ", "when seen;");
        misfit(A + "clean a ", "by 3;");
        misfit(A + "align a ", "by 3;");
        misfit(A + "replace a ", "by 3;");
        misfit(A + "clean a ", "a;");
        misfit(A + "clean ", ";");
        misfit(A + "clean ", "5;");
        misfit(A + "clean a when ", ";");
        misfit(A + "clean a when seen ", "when seen;");
    }

    private static void grammarOfTests() {
        good(A + "clean a when seen and seen or seen and not seen;");
        good(A + "clean a when [seen or waits a] and [1 < 2];");
        good(A + "clean a when not not [not seen];");
        good(A + "clean a when (1) < 2 + (3);");
        misfit(A + "clean a when seen ", "seen;");
        misfit(A + "clean a when seen and ", "and seen;");
        misfit(A + "clean a when seen or ", ";");
        misfit(A + "clean a when seen and ", ";");
        misfit(A + "clean a when not ", ";");
        misfit(A + "clean a when 1 < ", ";");
        misfit(A + "clean a when not ", "or seen;");
        misfit(A + "clean a when waits ", ";");
        misfit(A + "clean a when waits ", "seen;");
        misfit(A + "clean a when waits ", "of a;");
        misfit(A + "clean a when 1", ";");
        misfit(A + "clean a when 1 < 2 ", "< 3;");
        misfit(A + "clean a when (1 ", "< 2);");
        misfit(A + "clean a when (", "seen);");
        misfit(A + "clean a when [1", "];");
        misfit(A + "clean a when [seen", ";");
        misfit(A + "clean a when [seen", ");");
        misfit(A + "clean a when [", "];");
        misfit(A + "clean a when seen", "];");
        misfit(A + "clean a when 1 < ", "seen;");
        misfit(A + "clean a when 1 < ", "[2];");
        misfit(A + "clean a when 1 < ", "not 2;");
        misfit(A + "clean a when seen ", "< 2;");
        misfit(A + "clean a when ", "a;");
        misfit(A + "clean a when 1 ", "and seen;");
    }

    private static void grammarOfSums() {
        good(A + "shake a by 1 + 2 - 3 * 4 / 5;");
        good(A + "shake a by minute + light + jobs;");
        good(A + "shake a by offset of a + clarity of a + best of a + lost of a + tilt of a;");
        good(A + "shake a by - - 3 - - 4;");
        good(A + "shake a by min(1, 2) + max ( 1 + 2 , 3 * 4 );");
        misfit(A + "shake a by ", "+ 1;");
        misfit(A + "shake a by 1 + ", "+ 1;");
        misfit(A + "shake a by 1 * ", "/ 1;");
        misfit(A + "shake a by 1 + ", ";");
        misfit(A + "shake a by 1 * ", ";");
        misfit(A + "shake a by - ", ";");
        misfit(A + "shake a by min ", ";");
        misfit(A + "shake a by min(", ";");
        misfit(A + "shake a by min(1, ", ";");
        misfit(A + "shake a by min(1, ", ");");
        misfit(A + "shake a by 1 ", "2;");
        misfit(A + "shake a by (", ");");
        misfit(A + "shake a by (1", ";");
        misfit(A + "shake a by (1", "];");
        misfit(A + "shake a by (1", ", 2);");
        misfit(A + "shake a by 1", ");");
        misfit(A + "shake a by ", "[1];");
        misfit(A + "shake a by ", "a;");
        misfit(A + "shake a by ", "seen;");
        misfit(A + "shake a by 1 ", "< 2;");
        misfit(A + "shake a by min ", "1, 2;");
        misfit(A + "shake a by min(", ", 2);");
        misfit(A + "shake a by min(1", ");");
        misfit(A + "shake a by max(1, 2", ", 3);");
        misfit(A + "shake a by max(1, 2", ";");
        misfit(A + "shake a by max(1", "; 2);");
        for (String word : new String[] {"offset", "clarity", "best", "lost", "tilt"}) {
            misfit(A + "shake a by " + word + " ", "a;");
            misfit(A + "shake a by " + word + " of ", ";");
            misfit(A + "shake a by " + word + " of ", "5;");
            misfit(A + "shake a by " + word + " of ", "(a);");
            misfit(A + "shake a by " + word, ";");
        }
        for (String word : new String[] {"minute", "light", "jobs"}) {
            misfit(A + "shake a by " + word + " ", "of a;");
        }
        misfit(A + "shake a by ", "width;");
        misfit(A + "shake a by ", "limit;");
        misfit(A + "shake a by ", "of a;");
    }

    private static void depth() {
        String sum = A + "shake a by ";
        String test = A + "clean a when ";
        good(sum + "((((((((1))))))));");
        misfit(sum + "((((((((", "(1)))))))));");
        good(sum + "--------1;");
        misfit(sum + "--------", "-1;");
        misfit(sum + "--------", "(1);");
        misfit(sum + "((((((((", "-1))))))));");
        good(sum + "(((((((min(1, 2))))))));");
        misfit(sum + "((((((((min", "(1, 2)))))))));");
        misfit(sum + "((((((((max ", "(1, 2)))))))));");
        good(sum + "min(-------1, -------1);");
        misfit(sum + "min(-------", "-1, 2);");
        misfit(sum + "min(1, -------", "-2);");
        good(sum + "(((((min(min(1, 2), max(3, (4))))))));");
        misfit(sum + "(((((min(min(1, 2), max(3, (", "(4)))))))));");
        good(sum + "1 - 1 - 1 - 1 - 1 - 1 - 1 - 1 - 1 - 1;");
        good(sum + "-1 + -1 + -1 + -1 + -1 + -1 + -1 + -1 + -1 + -1;");
        good(sum + "(1) + (1) + (1) + (1) + (1) + (1) + (1) + (1) + (1);");
        good(sum + "(1 + -------1) + --------1;");
        misfit(sum + "(1 + -------", "-1);");
        good(test + "[[[[[[[[seen]]]]]]]];");
        misfit(test + "[[[[[[[[", "[seen]]]]]]]]];");
        misfit(test + "[[[[[[[[", "not seen]]]]]]]];");
        good(test + "not not not not not not not not seen;");
        misfit(test + "not not not not not not not not ", "not seen;");
        misfit(test + "not not not not not not not not ", "[seen];");
        misfit(test + "not not not not not not not not ", "(1) < 2;");
        misfit(test + "not not not not not not not not 1 < ", "-2;");
        good(test + "not [not [(-(-1)) < 2 and ----1 < 2 or seen]];");
        misfit(test + "not [not [not [(-", "(1)) < 2]]];");
        good(test + "[seen] and [seen] and [seen] and not seen and [seen] and [seen] and [seen] and [seen] and [seen];");
        good("mirror b clarity 5 offset - 5;");
    }

    private static void numberOfTokens() {
        StringBuilder train = new StringBuilder(A + "shake a by 1");
        // The mirror's line has 7 tokens, the order's beginning 4, and each "+1" 2; so 388 and 1.
        for (int i = 0; i < 194; i++) {
            train.append("+1");
        }
        good(train + ";");
        good(train + "; \n ");
        wrong(train + ";;", 1, train.length() + 1);
        wrong(train + "; width 5;", 1, train.length() + 2);
        wrong(train + "+1;", 1, train.length() + 1);
        wrong(train.toString(), 1, train.length());
        wrong(train + "+", 1, train.length() + 1);
        wrong(train + "+1", 1, train.length() + 1);
        wrong(train + "; ?", 1, train.length() + 2);
        StringBuilder many = new StringBuilder();
        for (int i = 0; i < 134; i++) {
            many.append("limit 1;");
        }
        // 133 lines have 399 tokens, so one word is left.
        wrong(many.toString(), 1, 133 * 8 + 6);
        good(many.substring(0, 133 * 8));
    }

    private static void errorTwo() {
        wrong(A + "mirror a clarity 50 offset 3;", 2, A.length() + 7);
        wrong(A + "mirror b clarity 1 offset 1; mirror a clarity 50 offset 3;", 2, A.length() + 36);
        wrong(A + "mirror a clarity 101 offset 99;", 2, A.length() + 7);
        good(A + "mirror a1 clarity 50 offset 3; mirror aa clarity 50 offset 3;");
        good("mirror abcdefghij clarity 50 offset 3; mirror abcdefghik clarity 50 offset 3;");
        good("mirror abcdefghi clarity 50 offset 3; mirror abcdefghij clarity 50 offset 3;");
    }

    private static void errorThree() {
        wrong("clean a;" + A, 3, 6);
        wrong(A + "clean b;", 3, A.length() + 6);
        wrong(A + "clean aa;", 3, A.length() + 6);
        wrong(A + "shake a by offset of b;", 3, A.length() + 21);
        wrong(A + "clean a when waits b;", 3, A.length() + 19);
        wrong(A + "clean a when tilt of b < 3; mirror b clarity 50 offset 3;", 3, A.length() + 21);
        wrong("mirror ab clarity 50 offset 3; clean a;", 3, 37);
        good(A + "mirror b clarity 50 offset 3; clean a when tilt of b < 3 and waits b;");
    }

    private static void errorFour() {
        StringBuilder ten = new StringBuilder();
        for (int i = 0; i < 10; i++) {
            ten.append("mirror m").append(i).append(" clarity 50 offset 3;");
        }
        good(ten.toString());
        wrong(ten + "mirror m10 clarity 50 offset 3;", 4, ten.length() + 7);
        wrong(ten + "mirror m9 clarity 50 offset 3;", 2, ten.length() + 7);
        wrong(ten + "mirror m10 clarity 500 offset 3; clean m;", 4, ten.length() + 7);
        String[] orders = {"clean a;", "align a;", "replace a;", "dust a by 1;", "shake a by 1;"};
        StringBuilder sixteen = new StringBuilder(A);
        for (int i = 0; i < 16; i++) {
            sixteen.append(orders[i % 5]);
        }
        good(sixteen.toString());
        for (String order : orders) {
            wrong(sixteen + order, 4, sixteen.length());
        }
        wrong(sixteen + "clean b;", 4, sixteen.length());
        good(sixteen + "width 60;" + "mirror b clarity 50 offset 3;");
    }

    private static void errorFive() {
        good("mirror a clarity 100 offset 90;");
        wrong("mirror a clarity 101 offset 90;", 5, 17);
        wrong("mirror a clarity 100 offset 91;", 5, 28);
        good("mirror a clarity 100 offset -90;");
        wrong("mirror a clarity 100 offset -91;", 5, 29);
        good("width 180;");
        wrong("width 181;", 5, 6);
        good("limit 10000;");
        wrong("limit 10001;", 5, 6);
        wrong("limit 999999;", 5, 6);
        // Other numbers are free.
        good(A + "shake a by 999999 when clarity of a < 999999 and offset of a - 999999 < 181;");
        good(A + "dust a by offset of a - 91;");
    }

    private static void orderOfErrors() {
        // Error 1 comes ahead of all others, also if it is farther on.
        wrong("width 181; clean b; width", 1, 25);
        wrong("clean b; width 181;", 3, 6);
        wrong("width 181; clean b;", 5, 6);
        wrong(A + "mirror a clarity 101 offset 3; clean b;", 2, A.length() + 7);
        wrong("mirror a clarity 101 offset 3; mirror a clarity 3 offset 3;", 5, 17);
    }

    private static void anErrorLeavesAll() {
        String more = "mirror b clarity 70 offset -4; width 30; limit 300; shake a by 1; clean b;";
        String[] errors = {
            "mirror c clarity 5 offset 5; width 5; limit 5; clean",
            "mirror c clarity 5 offset 5; width 5; limit 5; mirror c clarity 4 offset 4;",
            "mirror c clarity 5 offset 5; width 5; limit 5; clean a;",
            "mirror c clarity 5 offset 5; width 5; limit 5; clean c; width 181;",
        };
        int[] due = {1, 2, 3, 5};
        for (int i = 0; i < errors.length; i++) {
            PeriscopeTrain x = Check.train(A + more);
            PeriscopeTrain y = Check.train(A + more);
            x.passMinutes(2);
            y.passMinutes(2);
            long digest = x.digest();
            Check.same("teach with the error " + due[i], Check.tell(x, errors[i]), due[i]);
            Check.same("digest behind the error " + due[i], x.digest(), digest);
            Check.same("passMinutes behind it", x.passMinutes(9), y.passMinutes(9));
            Check.same("digest behind 9 minutes", x.digest(), y.digest());
        }
        PeriscopeTrain x = new PeriscopeTrain();
        Check.tell(x, "width");
        Check.same("errorAt", x.errorAt(), 5);
        x.passMinutes(1);
        Check.same("errorAt later", x.errorAt(), 5);
        Check.tell(x, "width 5");
        Check.same("errorAt of the latest", x.errorAt(), 7);
        Check.tell(x, "width 5;");
        Check.same("errorAt without an error", x.errorAt(), -1);
    }

    private static void aTrainBeginsAnew() {
        PeriscopeTrain x = Check.train(A + "mirror b clarity 50 offset 3; width 5; limit 5; shake a by 1; clean a;");
        x.moveMirror(0, 1);
        x.passMinutes(20);
        x.orderJob(1, 2);
        x.passMinutes(1);
        Check.same("teach", Check.tell(x, A + "mirror c clarity 80 offset 2;"), 0);
        Check.same("mirrors", x.mirrors(), 2);
        Check.same("orders", x.orders(), 0);
        Check.same("minutes", x.minutes(), 0);
        Check.same("jobs", x.jobs(), 0);
        Check.same("jobsDone", x.jobsDone(), 0);
        Check.same("minutesToGo", x.minutesToGo(), 0);
        Check.same("clarityOf", x.clarityOf(0), 50);
        Check.same("bestClarityOf", x.bestClarityOf(0), 100);
        Check.same("offsetOf", x.offsetOf(0), 3);
        Check.same("placeOf", x.placeOf(0), 0);
        Check.fails("isCovered", x.isCovered(1));
        // The width is 60 and the limit 1000 again.
        x.turnMirror(0, 30);
        Check.same("lightAtEnd", x.lightAtEnd(), 4000);
        x.turnMirror(1, 0);
        Check.holds("isSeen", x.isSeen());
        x.dustMirror(0, 38);
        Check.fails("isSeen below the limit", x.isSeen());
        x.passMinutes(5);
        Check.same("offsetOf later", x.offsetOf(0), 30);
        Check.same("teach of nothing", x.teach(), 0);
        Check.same("mirrors of nothing", x.mirrors(), 0);
        Check.same("digest of nothing", x.digest(), new PeriscopeTrain().digest());
        // Of the same train told again, no order is left from the first time.
        Check.tell(x, A + "shake a by 1; clean a when minute = 7;");
        Check.tell(x, A + "shake a by 1; clean a when minute = 7;");
        x.passMinutes(2);
        Check.same("offsetOf of a train told twice", x.offsetOf(0), 5);
        Check.same("orders of a train told twice", x.orders(), 2);
    }
}
