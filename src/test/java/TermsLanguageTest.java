import java.util.Arrays;
import java.util.List;

/** "Terms", "1. The language": tokens, grammar, depth, and errors 1 to 5 with their order and positions. */
final class TermsLanguageTest {
    private static final String A = "mirror a clarity 50 offset 3;";
    private static final String KEYWORDS = "mirror clarity offset width limit shake by dust clean align replace when"
            + " minute light jobs lost tilt best of seen waits not and or min max";
    private static final List<String> TOKENS = Arrays.asList(
            (KEYWORDS + " a 5 ( ) [ ] ; , + - * / < > = <= >=").split(" "));
    private static final String LINES = "mirror width limit shake dust clean align replace";
    private static final String VALUES = "5 minute light jobs offset clarity best lost tilt - ( min max";
    private static final String TESTS = VALUES + " not [ seen waits";
    private static final String COMPARISONS = "< > = <= >=";
    private static final String SIGNS = "+ - * /";

    private TermsLanguageTest() {
    }

    public static void main(String[] args) {
        terms1TapeOf2000Bytes();
        terms1TapeIsEmptyBehindTeach();
        terms1BlanksAndLineEnds();
        terms1BlanksThatHaveToStand();
        terms1LongestTokenIsRead();
        terms1WordOf10Bytes();
        terms1LettersAndDigits();
        terms1NumberOf6Digits();
        terms1KeywordsAreNoNames();
        terms1GrammarOfLines();
        terms1GrammarOfOrders();
        terms1GrammarOfTests();
        terms1GrammarOfSums();
        terms1GrammarOfMinAndMax();
        terms1DepthOf8();
        terms1DepthOf8InMinAndMax();
        terms1DepthOf8OfAllKinds();
        terms1DepthIsLessBehindTheEnd();
        terms1ErrorOneByteWithoutToken();
        terms1ErrorOneTooLong();
        terms1ErrorOneEndOfTheTape();
        terms1ErrorOneToken401();
        terms1ErrorOneIsTheFirst();
        terms1ErrorOneComesAheadOfAll();
        terms1ErrorTwo();
        terms1ErrorThree();
        terms1ErrorFourMirror11();
        terms1ErrorFourOrder17();
        terms1ErrorFive();
        terms1ErrorsFromLeftToRight();
        terms1ErrorsOfOneToken();
        terms1NumbersOfMirrorsAndOrders();
        terms1LatestWidth();
        terms1LatestLimit();
        Check.end();
    }

    private static void wrong(String text, int error, int position) {
        PeriscopeTrain x = new PeriscopeTrain();
        Check.same("teach() of " + text, Check.tell(x, text), error);
        Check.same("errorAt() of " + text, x.errorAt(), position);
    }

    private static void good(String text) {
        wrong(text, 0, -1);
    }

    /** Error 1 at the first byte of the last part. */
    private static void misfit(String ahead, String rest) {
        wrong(ahead + rest, 1, ahead.length());
    }

    /** Of all tokens just these can stand behind the text. */
    private static void follow(String text, String fitting) {
        List<String> fits = Arrays.asList(fitting.split(" "));
        for (String token : TOKENS) {
            String tape = text + " " + token;
            PeriscopeTrain x = new PeriscopeTrain();
            int error = Check.tell(x, tape);
            int due = fits.contains(token) ? tape.length() : text.length() + 1;
            Check.same("where " + tape + " is wrong", error == 0 ? tape.length() : x.errorAt(), due);
        }
    }

    private static String times(int count, String text) {
        return text.repeat(count);
    }

    private static void terms1TapeOf2000Bytes() {
        String text = "width 7; limit 3" + times(1983, " ") + ";";
        good(text);
        wrong(text.substring(0, 1999), 1, 1999);
        wrong(text.substring(0, 1999) + " ", 1, 2000);
        wrong(text.substring(0, 1999) + "?", 1, 1999);
        PeriscopeTrain x = new PeriscopeTrain();
        Check.write(x, text);
        Check.same("tapeBytes", x.tapeBytes(), 2000);
        Check.refuses("feed", x, Check.STATE, () -> x.feed(0, 0, 0, 0, 0));
        Check.same("teach", x.teach(), 0);
    }

    private static void terms1TapeIsEmptyBehindTeach() {
        PeriscopeTrain x = new PeriscopeTrain();
        String[] tapes = {"", A, "clean", A + A, "clean a;", "width 181;", times(100, " ")};
        for (String tape : tapes) {
            Check.tell(x, tape);
            Check.same("tapeBytes behind " + tape, x.tapeBytes(), 0);
            Check.same("teach of the empty tape", x.teach(), 0);
            Check.same("feed to the empty tape", x.feed(0, 0, 0, 0, 0), 20);
            x.trim(0);
        }
    }

    private static void terms1BlanksAndLineEnds() {
        good("width 5;");
        good("  width  5  ;  ");
        good("\n\nwidth\n\n5\n\n;\n\n");
        good(" \n ");
        good("");
        good("mirror a clarity 5 offset-5;shake a by-3+(4)*min(5,6)when[1<2];");
        good("mirror a clarity 5 offset - 5 ; shake a by - 3 + ( 4 ) * min ( 5 , 6 ) when [ 1 < 2 ] ;");
        for (int sign = 0; sign < 256; sign++) {
            String between = "width 5;" + (char) sign + "width 6;";
            boolean isBlank = sign == 32 || sign == 10;
            wrong(between, isBlank ? 0 : 1, isBlank ? -1 : 8);
        }
        misfit("width", "\t5;");
        misfit("width", "\r\n5;");
    }

    private static void terms1BlanksThatHaveToStand() {
        good("width 5;");
        misfit("", "width5;");
        misfit("", "mirrora clarity 5 offset 5;");
        misfit("mirror a ", "clarity5 offset 5;");
        // a1 is one name, so the number is missing; 1a are two tokens.
        misfit(A + "clean awhen ", "1 < 2;");
        good(A + "clean a when 1<2and 2<3or seen;");
        // 55 is one number, and 5 5 are two.
        wrong("width 1 81;", 1, 8);
        wrong("width 181;", 5, 6);
        good(A + "clean a when 1 <= 2;");
        misfit(A + "clean a when 1 < ", "= 2;");
    }

    private static void terms1LongestTokenIsRead() {
        good("mirror mirrora clarity 5 offset 5; clean mirrora;");
        good("mirror min1 clarity 5 offset 5; clean min1;");
        good("mirror orb clarity 5 offset 5; clean orb;");
        wrong("mirror a clarity 5 offset 5; clean ab;", 3, 35);
        good(A + "clean a when 1<=-2;");
        good(A + "clean a when 1>=-2;");
        misfit(A + "clean a when 1=", "<2;");
        misfit(A + "clean a when 1=", ">2;");
        misfit(A + "clean a when 1=", "=2;");
        misfit(A + "clean a when 1<=", "=2;");
        misfit(A + "clean a when 1<", ">2;");
        misfit(A + "clean a when 1", "minute<2;");
    }

    private static void terms1WordOf10Bytes() {
        good("mirror a clarity 5 offset 5;");
        good("mirror abcdefghi clarity 5 offset 5;");
        good("mirror abcdefghij clarity 5 offset 5;");
        misfit("mirror ", "abcdefghijk clarity 5 offset 5;");
        good("mirror a123456789 clarity 5 offset 5;");
        misfit("mirror ", "a1234567890 clarity 5 offset 5;");
        misfit("", "abcdefghijk");
        misfit("", "mirrormirro a clarity 5 offset 5;");
        // All ten bytes count.
        good("mirror abcdefghij clarity 5 offset 5; mirror abcdefghik clarity 5 offset 5;");
        wrong("mirror abcdefghij clarity 5 offset 5; clean abcdefghik;", 3, 44);
        wrong("mirror abcdefghij clarity 5 offset 5; clean abcdefghi;", 3, 44);
        wrong("mirror abcdefghij clarity 5 offset 5; mirror abcdefghij clarity 5 offset 5;", 2, 45);
    }

    private static void terms1LettersAndDigits() {
        good("mirror az clarity 5 offset 5; clean az;");
        good("mirror za09 clarity 5 offset 5; clean za09;");
        misfit("mirror a", "` clarity 5 offset 5;");
        misfit("mirror z", "{ clarity 5 offset 5;");
        misfit("mirror a", "A clarity 5 offset 5;");
        misfit("mirror z", "Z clarity 5 offset 5;");
        misfit("mirror a0", "/ clarity 5 offset 5;");
        misfit("mirror a9", ": clarity 5 offset 5;");
        misfit("mirror a", "_b clarity 5 offset 5;");
        misfit("mirror ", "0a clarity 5 offset 5;");
        misfit("", "A;");
        misfit("", "Width 5;");
        good("width 0;");
        good("width 9;");
        misfit("width 0", "/;");
        misfit("width 9", ":;");
    }

    private static void terms1NumberOf6Digits() {
        good(A + "shake a by 0;");
        good(A + "shake a by 99999;");
        good(A + "shake a by 999999;");
        misfit(A + "shake a by ", "1000000;");
        good("width 000180;");
        misfit("width ", "0000180;");
        wrong("width 000181;", 5, 6);
        PeriscopeTrain x = Check.train("mirror a clarity 000050 offset 000003; shake a by 999999 - 999990;");
        x.passMinutes(1);
        Check.same("offsetOf", x.offsetOf(0), 12);
    }

    private static void terms1KeywordsAreNoNames() {
        for (String keyword : KEYWORDS.split(" ")) {
            misfit("mirror ", keyword + " clarity 5 offset 5;");
            misfit(A + "clean ", keyword + ";");
            good("mirror " + keyword + "x clarity 5 offset 5; clean " + keyword + "x;");
            String shorter = keyword.substring(0, keyword.length() - 1);
            if (!shorter.equals("o")) {
                good("mirror " + shorter + " clarity 5 offset 5; clean " + shorter + ";");
            }
        }
        // A word that is another one in one letter only is a name.
        for (String keyword : KEYWORDS.split(" ")) {
            for (int at = 0; at < keyword.length(); at++) {
                String name = keyword.substring(0, at) + "q" + keyword.substring(at + 1);
                good("mirror " + name + " clarity 5 offset 5; clean " + name + ";");
            }
        }
        for (String name : "mirrors covered minutes orders job kind place row tape a".split(" ")) {
            good("mirror " + name + " clarity 5 offset 5; clean " + name + ";");
        }
    }

    private static void terms1GrammarOfLines() {
        follow("", LINES);
        follow(A, LINES);
        follow("mirror", "a");
        follow("mirror a", "clarity");
        follow("mirror a clarity", "5");
        follow("mirror a clarity 5", "offset");
        follow("mirror a clarity 5 offset", "5 -");
        follow("mirror a clarity 5 offset -", "5");
        follow("mirror a clarity 5 offset 5", ";");
        follow("mirror a clarity 5 offset - 5", ";");
        follow("mirror a clarity 5 offset 5;", LINES);
        follow("width", "5");
        follow("width 5", ";");
        follow("limit", "5");
        follow("limit 5", ";");
    }

    private static void terms1GrammarOfOrders() {
        for (String order : new String[] {"clean", "align", "replace"}) {
            follow(A + order, "a");
            follow(A + order + " a", "when ;");
            follow(A + order + " a when", TESTS);
            follow(A + order + " a when seen", "and or ;");
        }
        for (String order : new String[] {"shake", "dust"}) {
            follow(A + order, "a");
            follow(A + order + " a", "by");
            follow(A + order + " a by", VALUES);
            follow(A + order + " a by 5", SIGNS + " when ;");
            follow(A + order + " a by 5 when", TESTS);
            follow(A + order + " a by 5 when seen", "and or ;");
        }
        follow(A + "clean a;", LINES);
    }

    private static void terms1GrammarOfTests() {
        String test = A + "clean a when ";
        follow(test + "not", TESTS);
        follow(test + "not seen", "and or ;");
        follow(test + "[", TESTS);
        follow(test + "[ seen", "and or ]");
        follow(test + "[ [ seen ]", "and or ]");
        follow(test + "[ seen ]", "and or ;");
        follow(test + "waits", "a");
        follow(test + "waits a", "and or ;");
        follow(test + "seen and", TESTS);
        follow(test + "seen or", TESTS);
        follow(test + "seen and seen", "and or ;");
        follow(test + "seen or seen", "and or ;");
        follow(test + "5", SIGNS + " " + COMPARISONS);
        follow(test + "minute", SIGNS + " " + COMPARISONS);
        follow(test + "tilt of a", SIGNS + " " + COMPARISONS);
        follow(test + "( 5 )", SIGNS + " " + COMPARISONS);
        for (String sign : COMPARISONS.split(" ")) {
            follow(test + "5 " + sign, VALUES);
            follow(test + "5 " + sign + " 5", SIGNS + " and or ;");
        }
        follow(test + "[ 5 < 5", SIGNS + " and or ]");
        follow(test + "[ 5 < 5 ]", "and or ;");
    }

    private static void terms1GrammarOfSums() {
        String sum = A + "shake a by ";
        for (String sign : SIGNS.split(" ")) {
            follow(sum + "5 " + sign, VALUES);
            follow(sum + "5 " + sign + " 5", SIGNS + " when ;");
        }
        for (String word : new String[] {"minute", "light", "jobs"}) {
            follow(sum + word, SIGNS + " when ;");
        }
        for (String word : new String[] {"offset", "clarity", "best", "lost", "tilt"}) {
            follow(sum + word, "of");
            follow(sum + word + " of", "a");
            follow(sum + word + " of a", SIGNS + " when ;");
        }
        follow(sum + "-", VALUES);
        follow(sum + "- 5", SIGNS + " when ;");
        follow(sum + "(", VALUES);
        follow(sum + "( 5", SIGNS + " )");
        follow(sum + "( ( 5 )", SIGNS + " )");
        follow(sum + "( 5 )", SIGNS + " when ;");
    }

    private static void terms1GrammarOfMinAndMax() {
        for (String word : new String[] {"min", "max"}) {
            String sum = A + "shake a by " + word;
            follow(sum, "(");
            follow(sum + " (", VALUES);
            follow(sum + " ( 5", SIGNS + " ,");
            follow(sum + " ( 5 ,", VALUES);
            follow(sum + " ( 5 , 5", SIGNS + " )");
            follow(sum + " ( 5 , 5 )", SIGNS + " when ;");
            follow(sum + " ( ( 5", SIGNS + " )");
            follow(sum + " ( ( 5 )", SIGNS + " ,");
        }
    }

    private static void terms1DepthOf8() {
        String sum = A + "shake a by ";
        String test = A + "clean a when ";
        good(sum + times(8, "(") + "1" + times(8, ")") + ";");
        misfit(sum + times(8, "("), "(1" + times(9, ")") + ";");
        good(sum + times(8, "- ") + "1;");
        misfit(sum + times(8, "- "), "- 1;");
        good(test + times(8, "[") + "seen" + times(8, "]") + ";");
        misfit(test + times(8, "["), "[seen" + times(9, "]") + ";");
        good(test + times(8, "not ") + "seen;");
        misfit(test + times(8, "not "), "not seen;");
        // The tokens that the depth allows at 8.
        follow(sum + times(8, "("), "5 minute light jobs offset clarity best lost tilt min max");
        follow(sum + times(8, "-"), "5 minute light jobs offset clarity best lost tilt min max");
        follow(test + times(8, "["), "5 minute light jobs offset clarity best lost tilt min max seen waits");
        follow(test + times(8, "not "), "5 minute light jobs offset clarity best lost tilt min max seen waits");
        follow(sum + times(7, "("), VALUES);
        follow(test + times(7, "["), TESTS);
    }

    private static void terms1DepthOf8InMinAndMax() {
        String sum = A + "shake a by ";
        for (String word : new String[] {"min", "max"}) {
            good(sum + times(7, "(") + word + "(1,2)" + times(7, ")") + ";");
            misfit(sum + times(8, "(") + word, "(1,2)" + times(8, ")") + ";");
            good(sum + times(8, word + "(") + "1" + times(8, ",2)") + ";");
            misfit(sum + times(8, word + "(") + word, "(1" + times(9, ",2)") + ";");
            good(sum + times(8, word + "(1,") + "2" + times(8, ")") + ";");
            misfit(sum + times(8, word + "(1,") + word, "(1,2" + times(9, ")") + ";");
            good(sum + word + "(" + times(7, "-") + "1," + times(7, "-") + "2);");
            misfit(sum + word + "(" + times(7, "-"), "-1,2);");
            misfit(sum + word + "(1," + times(7, "-"), "-2);");
        }
    }

    private static void terms1DepthOf8OfAllKinds() {
        String test = A + "clean a when ";
        String open = "not [ not [ ( - min( ";
        good(test + open + "- 1 , 2 ) ) < 3 ] ];");
        misfit(test + open + "- ", "- 1 , 2 ) ) < 3 ] ];");
        misfit(test + open + "- ", "( 1 ) , 2 ) ) < 3 ] ];");
        good(test + open + "1 , ( 2 ) ) ) < 3 ] ];");
        misfit(test + open + "1 , ( ", "( 2 ) ) ) ) < 3 ] ];");
        misfit(test + times(8, "not "), "[ seen ];");
        misfit(test + times(8, "["), "not seen" + times(8, "]") + ";");
        misfit(test + times(8, "not "), "- 1 < 2;");
        misfit(test + times(8, "not "), "( 1 ) < 2;");
        misfit(test + times(8, "not ") + "1 < ", "( 2 );");
        misfit(test + times(8, "not ") + "1 < ", "- 2;");
        good(test + times(7, "not ") + "- 1 < ( 2 );");
        misfit(test + times(7, "not ") + "1 < - ", "- 2;");
        good(test + times(8, "not ") + "1 - 1 < 2 - 2;");
    }

    private static void terms1DepthIsLessBehindTheEnd() {
        String sum = A + "shake a by ";
        String test = A + "clean a when ";
        String deep = times(8, "(") + "1" + times(8, ")");
        good(sum + deep + "+" + deep + "*" + deep + ";");
        good(sum + times(8, "-") + "1+" + times(8, "-") + "1*" + times(8, "-") + "1;");
        good(sum + times(7, "(") + "-1--1*-1" + times(7, ")") + ";");
        good(sum + "min(1,2)" + times(9, "+min(1,2)") + ";");
        good(sum + times(7, "(") + "(1)+(1)-(1)*(1)/(1)" + times(7, ")") + ";");
        misfit(sum + times(7, "(") + "(1)+(1)-(", "(1))" + times(7, ")") + ";");
        good(test + times(7, "[") + "[seen] and [seen] or not seen" + times(7, "]") + ";");
        misfit(test + times(7, "[") + "[seen] and [seen] or not ", "not seen" + times(7, "]") + ";");
        good(test + times(8, "not ") + "seen and " + times(8, "not ") + "seen or " + times(8, "not ") + "seen;");
        good(test + deep + "<" + deep + ";");
        good(sum + "1" + times(20, "-1") + ";");
        // The minus of a mirror's offset, or between two values, does not turn a value.
        good("mirror b clarity 5 offset -5; shake b by " + deep + "-" + deep + ";");
    }

    private static void terms1ErrorOneByteWithoutToken() {
        String begins = "abcdefghijklmnopqrstuvwxyz0123456789()[];,+-*/<>= \n";
        for (int sign = 0; sign < 256; sign++) {
            String one = String.valueOf((char) sign);
            if (begins.indexOf(sign) < 0) {
                misfit("", one);
                misfit("width 5", one + ";");
                misfit(A + "shake a by 5", one + ";");
            }
        }
    }

    private static void terms1ErrorOneTooLong() {
        misfit("width ", "1000000;");
        misfit("mirror ", "abcdefghijk clarity 5 offset 5;");
        // Too long where no word, or number, could stand at all.
        misfit("width 5 ", "1000000;");
        misfit("width 5 ", "abcdefghijk;");
        // One that is too long, behind another error 1, is not the first.
        misfit("width ", "; width 1000000;");
        misfit("width ", times(2000 - 6, "1"));
        misfit("width 5;", times(2000 - 8, "w"));
    }

    private static void terms1ErrorOneEndOfTheTape() {
        wrong("width", 1, 5);
        wrong("width 5", 1, 7);
        wrong("width 5  ", 1, 9);
        wrong("width 5\n\n", 1, 9);
        wrong(A + "clean a when [seen", 1, A.length() + 18);
        wrong(A + "clean a when [seen ", 1, A.length() + 19);
        good("width 5;");
        good("width 5;  ");
        good("");
        good(times(2000, " "));
        wrong("width" + times(1995, " "), 1, 2000);
    }

    /** A train of so many tokens, with an order by a sum of 1 and 1 and so on. */
    private static String tokens(int count) {
        String ahead = count % 2 == 0 ? "" : "clean a;";
        int used = count % 2 == 0 ? 7 + 4 + 1 : 7 + 3 + 4 + 1;
        return A + ahead + "shake a by 1" + times((count - used) / 2, "+1") + ";";
    }

    private static void terms1ErrorOneToken401() {
        good(tokens(399));
        good(tokens(400));
        wrong(tokens(401), 1, tokens(401).length() - 1);
        wrong(tokens(402), 1, tokens(402).length() - 2);
        good(tokens(400) + " \n ");
        wrong(tokens(400) + " width 5;", 1, tokens(400).length() + 1);
        wrong(tokens(397) + "width 5;width 6;", 1, tokens(397).length() + 8);
        good(tokens(397) + "width 5;");
        // The end of the tape is not counted, and is wrong behind 400 tokens, too.
        String open = tokens(401).substring(0, tokens(401).length() - 1);
        wrong(open, 1, open.length());
        wrong(open + "  ", 1, open.length() + 2);
        wrong(open + "  ;", 1, open.length() + 2);
        // A token that does not fit is wrong ahead of that.
        wrong(";" + tokens(400), 1, 0);
        wrong(tokens(400) + "1000000", 1, tokens(400).length());
        wrong(tokens(400) + "?", 1, tokens(400).length());
    }

    private static void terms1ErrorOneIsTheFirst() {
        misfit("width ", "width ? 1000000");
        misfit("width 5;", "? width");
        misfit(A + "shake a by ", ") )");
        misfit(A + "shake a by " + times(8, "("), "(" + " ?");
    }

    private static void terms1ErrorOneComesAheadOfAll() {
        wrong(A + A + "width", 1, 2 * A.length() + 5);
        wrong("clean b; width", 1, 14);
        wrong(A + times(17, "clean a;") + "?", 1, A.length() + 17 * 8);
        wrong("width 181;;", 1, 10);
        wrong(A + A + "width 5;", 2, A.length() + 7);
        wrong("clean b; width 5;", 3, 6);
        wrong(A + times(17, "clean a;"), 4, A.length() + 16 * 8);
        wrong("width 181;", 5, 6);
    }

    private static void terms1ErrorTwo() {
        wrong(A + A, 2, A.length() + 7);
        wrong(A + "mirror b clarity 50 offset 3;" + A, 2, 2 * A.length() + 7);
        wrong("mirror b clarity 50 offset 3;" + A + A, 2, 2 * A.length() + 7);
        wrong(A + "clean a;" + A, 2, A.length() + 15);
        good(A + "mirror b clarity 50 offset 3; mirror aa clarity 50 offset 3; mirror a1 clarity 50 offset 3;");
        // It is at the name, ahead of what the rest of the line tells.
        wrong(A + "mirror a clarity 101 offset 91;", 2, A.length() + 7);
    }

    private static void terms1ErrorThree() {
        String[] parts = {"shake % by 1;", "dust % by 1;", "clean %;", "align %;", "replace %;",
            "clean a when waits %;", "shake a by offset of %;", "shake a by clarity of %;", "shake a by best of %;",
            "shake a by lost of %;", "shake a by tilt of %;", "clean a when 1 < tilt of %;"};
        for (String part : parts) {
            wrong(A + part.replace('%', 'b'), 3, A.length() + part.indexOf('%'));
            good(A + part.replace('%', 'a'));
            // It has to be told ahead of it.
            String b = "mirror b clarity 50 offset 3;";
            wrong(A + part.replace('%', 'b') + b, 3, A.length() + part.indexOf('%'));
            good(A + b + part.replace('%', 'b'));
        }
        wrong("clean a;" + A, 3, 6);
        wrong("clean b;", 3, 6);
    }

    private static String mirrors(int count) {
        StringBuilder text = new StringBuilder();
        for (int i = 0; i < count; i++) {
            text.append("mirror m").append(i).append(" clarity 50 offset 3;");
        }
        return text.toString();
    }

    private static void terms1ErrorFourMirror11() {
        good(mirrors(9));
        good(mirrors(10));
        wrong(mirrors(11), 4, mirrors(10).length() + 7);
        wrong(mirrors(12), 4, mirrors(10).length() + 7);
        wrong(mirrors(10) + "mirror x clarity 101 offset 91;", 4, mirrors(10).length() + 7);
        good(mirrors(10) + "clean m9; align m0;");
    }

    private static void terms1ErrorFourOrder17() {
        String[] orders = {"shake a by 1;", "dust a by 1;", "clean a;", "align a;", "replace a;"};
        for (String order : orders) {
            good(A + times(15, order));
            good(A + times(16, order));
            wrong(A + times(17, order), 4, A.length() + 16 * order.length());
            wrong(A + times(18, order), 4, A.length() + 16 * order.length());
            wrong(A + times(16, "clean a;") + order, 4, A.length() + 16 * 8);
            wrong(A + times(16, "clean a;") + order.replace(" a", " b"), 4, A.length() + 16 * 8);
        }
        // Lines that are no orders do not count.
        good(A + times(16, "clean a;") + "width 5; limit 5; mirror b clarity 5 offset 5;");
    }

    private static void terms1ErrorFive() {
        good("mirror a clarity 0 offset 0;");
        good("mirror a clarity 100 offset 90;");
        wrong("mirror a clarity 101 offset 90;", 5, 17);
        wrong("mirror a clarity 999999 offset 90;", 5, 17);
        wrong("mirror a clarity 100 offset 91;", 5, 28);
        good("mirror a clarity 100 offset -90;");
        wrong("mirror a clarity 100 offset -91;", 5, 29);
        wrong("mirror a clarity 100 offset - 91;", 5, 30);
        good("mirror a clarity 100 offset -0;");
        good("width 0; width 180;");
        wrong("width 181;", 5, 6);
        wrong("width 180; width 181; width 180;", 5, 17);
        good("limit 0; limit 10000;");
        wrong("limit 10001;", 5, 6);
        wrong("limit 0; limit 10001; limit 0;", 5, 15);
        // Numbers of sums and tests may be greater, also behind a minus, or behind these words.
        good(A + "shake a by 999999; dust a by offset of a - 999999; shake a by clarity of a * 999999;");
        good(A + "clean a when offset of a - 91 < clarity of a + 101;");
    }

    private static void terms1ErrorsFromLeftToRight() {
        // One behind the other: 2, 3, 4 (the 17th order) and 5, each first once.
        String two = "mirror a clarity 50 offset 3;";
        String three = "clean b;";
        String five = "width 181;";
        wrong(A + two + three + five, 2, A.length() + 7);
        wrong(A + three + two + five, 3, A.length() + 6);
        wrong(A + five + three + two, 5, A.length() + 6);
        wrong(A + five + two + three, 5, A.length() + 6);
        wrong(A + times(16, "clean a;") + "clean a;" + two + three + five, 4, A.length() + 16 * 8);
        wrong(A + times(16, "clean a;") + five + "clean a;", 5, A.length() + 16 * 8 + 6);
        wrong(A + times(15, "clean a;") + three + "clean a;", 3, A.length() + 15 * 8 + 6);
        // Within a line, too.
        wrong("mirror a clarity 101 offset 91;", 5, 17);
        wrong("shake a by offset of b when waits c;", 3, 6);
        wrong(A + "shake a by offset of b when waits c;", 3, A.length() + 21);
        wrong(A + "shake a by offset of a when waits c;", 3, A.length() + 34);
    }

    private static void terms1ErrorsOfOneToken() {
        // The name of the 11th mirror that is that of one told ahead: 2 and 4.
        wrong(mirrors(10) + "mirror m0 clarity 50 offset 3;", 2, mirrors(10).length() + 7);
        wrong(mirrors(10) + "mirror m9 clarity 50 offset 3;", 2, mirrors(10).length() + 7);
        wrong(mirrors(10) + "mirror m10 clarity 50 offset 3;", 4, mirrors(10).length() + 7);
    }

    private static void terms1NumbersOfMirrorsAndOrders() {
        PeriscopeTrain x = Check.train("mirror z clarity 1 offset 0; width 9; mirror b clarity 2 offset 0;"
                + "shake b by 5; mirror a clarity 3 offset 0; shake a by 6; shake z by 7;");
        for (int mirror = 0; mirror < 3; mirror++) {
            Check.same("clarityOf " + mirror, x.clarityOf(mirror), mirror + 1);
        }
        x.passMinutes(1);
        Check.same("offsetOf z", x.offsetOf(0), 7);
        Check.same("offsetOf b", x.offsetOf(1), 5);
        Check.same("offsetOf a", x.offsetOf(2), 6);
        Check.same("orders", x.orders(), 3);
        // Orders go in the order in which they are told: 90 and -1 more is 89, the other way round 90.
        x = Check.train("mirror a clarity 50 offset 80; shake a by 20; shake a by -1;");
        x.passMinutes(1);
        Check.same("offsetOf", x.offsetOf(0), 89);
        x = Check.train("mirror a clarity 50 offset 80; shake a by -1; shake a by 20;");
        x.passMinutes(1);
        Check.same("offsetOf", x.offsetOf(0), 90);
    }

    private static void seenAtTilt(String lines, int offset, boolean due) {
        PeriscopeTrain x = Check.train(lines + "mirror a clarity 100 offset 0;");
        x.turnMirror(0, offset);
        Check.same(lines + " isSeen at " + 2 * offset, x.isSeen() ? 1 : 0, due ? 1 : 0);
    }

    private static void terms1LatestWidth() {
        seenAtTilt("", 30, true);
        seenAtTilt("", 31, false);
        seenAtTilt("width 62;", 31, true);
        seenAtTilt("width 62;", 32, false);
        seenAtTilt("width 8; width 62;", 31, true);
        seenAtTilt("width 62; width 8;", 4, true);
        seenAtTilt("width 62; width 8;", 5, false);
        seenAtTilt("width 61;", 31, false);
        seenAtTilt("width 180;", 90, true);
        seenAtTilt("width 179;", 90, false);
        // Told behind its mirrors and orders, it is the same.
        PeriscopeTrain x = Check.train("width 8; mirror a clarity 100 offset 31; clean a when 1 < 0; width 62;");
        Check.holds("isSeen", x.isSeen());
        Check.tell(x, "mirror a clarity 100 offset 31;");
        Check.fails("isSeen without a width", x.isSeen());
        Check.tell(x, "width 0; clean a;");
        Check.tell(x, "mirror a clarity 100 offset 30;");
        Check.holds("isSeen at the width of 60", x.isSeen());
    }

    private static void seenAtLight(String lines, int clarity, boolean due) {
        PeriscopeTrain x = Check.train(lines + "mirror a clarity " + clarity + " offset 0;");
        Check.same(lines + " isSeen at " + 100 * clarity, x.isSeen() ? 1 : 0, due ? 1 : 0);
    }

    private static void terms1LatestLimit() {
        seenAtLight("", 10, true);
        seenAtLight("", 9, false);
        seenAtLight("limit 2000;", 20, true);
        seenAtLight("limit 2001;", 20, false);
        seenAtLight("limit 9000; limit 2000;", 20, true);
        seenAtLight("limit 2000; limit 9000;", 89, false);
        seenAtLight("limit 2000; limit 9000;", 90, true);
        seenAtLight("limit 10000;", 100, true);
        seenAtLight("limit 10000;", 99, false);
        seenAtLight("limit 0;", 0, true);
        seenAtLight("limit 1;", 0, false);
        PeriscopeTrain x = Check.train("limit 9000; mirror a clarity 20 offset 0; clean a when 1 < 0; limit 2000;");
        Check.holds("isSeen", x.isSeen());
        Check.tell(x, "limit 0; mirror a clarity 9 offset 0;");
        Check.holds("isSeen with a limit of 0", x.isSeen());
        // A limit of a train before is none of this one; nor is that of one with an error.
        Check.tell(x, "mirror a clarity 9 offset 0;");
        Check.fails("isSeen without a limit", x.isSeen());
        Check.tell(x, "limit 1001; clean a;");
        Check.tell(x, "mirror a clarity 10 offset 0;");
        Check.holds("isSeen at the limit of 1000", x.isSeen());
    }
}
