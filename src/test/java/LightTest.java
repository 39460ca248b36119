/** Promises 6 to 8, 10 to 22: what was told, and the light along the row. */
final class LightTest {
    private static final String THREE =
            "mirror a clarity 90 offset 10; mirror b clarity 50 offset -25; mirror c clarity 33 offset 4;";

    private LightTest() {
    }

    public static void main(String[] args) {
        countsOfWhatWasTold();
        mirrorsAsTold();
        lightAlongTheRow();
        tiltBeyondTheWidth();
        widthAndLimitOfTheLatestLine();
        seen();
        worstMirror();
        coveredMirror();
        rowOfPlaces();
        wrongMirrors();
        Check.end();
    }

    private static void countsOfWhatWasTold() {
        PeriscopeTrain x = Check.train(THREE + "clean a; shake b by 0; dust c by 0;"
                + "replace a when seen and not seen;");
        Check.same("mirrors", x.mirrors(), 3);
        Check.same("orders", x.orders(), 4);
        Check.same("minutes", x.minutes(), 0);
        x.passMinutes(7);
        x.passMinutes(1);
        Check.same("minutes", x.minutes(), 8);
        x.lightAfter(5);
        Check.same("minutes behind a question", x.minutes(), 8);
    }

    private static void mirrorsAsTold() {
        PeriscopeTrain x = Check.train(THREE);
        int[] clarity = {90, 50, 33};
        int[] offset = {10, -25, 4};
        for (int m = 0; m < 3; m++) {
            Check.same("clarityOf " + m, x.clarityOf(m), clarity[m]);
            Check.same("bestClarityOf " + m, x.bestClarityOf(m), 100);
            Check.same("offsetOf " + m, x.offsetOf(m), offset[m]);
            Check.same("placeOf " + m, x.placeOf(m), m);
            Check.same("mirrorAt " + m, x.mirrorAt(m), m);
            Check.fails("isCovered " + m, x.isCovered(m));
        }
        StringBuilder ten = new StringBuilder();
        for (int m = 0; m < 10; m++) {
            ten.append("mirror m").append(m).append(" clarity ").append(99 - m).append(" offset ").append(m).append(';');
        }
        x = Check.train(ten.toString());
        Check.same("mirrors", x.mirrors(), 10);
        for (int m = 0; m < 10; m++) {
            Check.same("clarityOf " + m + " of ten", x.clarityOf(m), 99 - m);
            Check.same("offsetOf " + m + " of ten", x.offsetOf(m), m);
        }
    }

    private static void lightAlongTheRow() {
        PeriscopeTrain x = Check.train(THREE);
        int[] light = {9000, 4500, 1485};
        int[] lost = {1000, 4500, 3015};
        int[] tilt = {20, -30, -22};
        for (int m = 0; m < 3; m++) {
            Check.same("lightBehind " + m, x.lightBehind(m), light[m]);
            Check.same("lostAt " + m, x.lostAt(m), lost[m]);
            Check.same("tiltBehind " + m, x.tiltBehind(m), tilt[m]);
        }
        Check.same("lightAtEnd", x.lightAtEnd(), 1485);
        Check.same("tiltAtEnd", x.tiltAtEnd(), -22);
        // 10000 * 33 / 100 * 33 / 100 * 33 / 100, cut each time: 3300, 1089, 359.
        x = Check.train("mirror a clarity 33 offset 0; mirror b clarity 33 offset 0; mirror c clarity 33 offset 0;");
        Check.same("tiltAtEnd ahead of other questions", x.tiltAtEnd(), 0);
        x.turnMirror(0, 5);
        Check.same("tiltAtEnd behind a turn", x.tiltAtEnd(), 10);
        x.turnMirror(0, 0);
        Check.same("lightAtEnd, cut", x.lightAtEnd(), 359);
        Check.same("lostAt, cut", x.lostAt(2), 730);
    }

    private static void tiltBeyondTheWidth() {
        // Behind a the tilt is 60, behind b -62, so c is the first without light.
        PeriscopeTrain x = Check.train("mirror a clarity 100 offset 30; mirror b clarity 90 offset -61;"
                + "mirror c clarity 100 offset 1; mirror d clarity 100 offset 9;");
        Check.same("lightBehind at the width", x.lightBehind(1), 9000);
        Check.same("tiltBehind", x.tiltBehind(1), -62);
        Check.same("lightBehind below the width", x.lightBehind(2), 0);
        Check.same("lostAt below the width", x.lostAt(2), 9000);
        Check.same("tiltBehind without light", x.tiltBehind(2), -60);
        Check.same("lightBehind farther on", x.lightBehind(3), 0);
        Check.same("lostAt farther on", x.lostAt(3), 0);
        Check.same("tiltBehind farther on", x.tiltBehind(3), -42);
        x.turnMirror(1, -60);
        Check.same("lightBehind at the opposite", x.lightBehind(2), 9000);
        x.turnMirror(0, 31);
        Check.same("lightBehind above the width", x.lightBehind(1), 0);
        Check.same("lostAt above the width", x.lostAt(1), 10000);
        // What the last mirror adds is no obstacle to light, but to its being seen.
        x = Check.train("mirror a clarity 100 offset 90;");
        Check.same("lightAtEnd", x.lightAtEnd(), 10000);
        Check.same("tiltAtEnd", x.tiltAtEnd(), 180);
        Check.fails("isSeen", x.isSeen());
    }

    private static void widthAndLimitOfTheLatestLine() {
        PeriscopeTrain x = Check.train("width 10;" + THREE);
        Check.same("lightAtEnd with a width of 10", x.lightAtEnd(), 0);
        x = Check.train("width 10;" + THREE + "width 29;");
        Check.same("lightBehind with a width of 29", x.lightBehind(2), 0);
        x = Check.train("width 10;" + THREE + "width 30;");
        Check.same("lightAtEnd with a width of 30", x.lightAtEnd(), 1485);
        x = Check.train("width 0; mirror a clarity 100 offset 0; mirror b clarity 100 offset 0;");
        Check.same("lightAtEnd with a width of 0", x.lightAtEnd(), 10000);
        x.turnMirror(0, 1);
        Check.same("lightAtEnd beyond a width of 0", x.lightAtEnd(), 0);
        x = Check.train("limit 1485; limit 1486;" + THREE);
        Check.fails("isSeen with a limit of 1486", x.isSeen());
        x = Check.train("limit 1486; limit 1485;" + THREE);
        Check.holds("isSeen with a limit of 1485", x.isSeen());
    }

    private static void seen() {
        PeriscopeTrain x = Check.train("mirror a clarity 10 offset 30;");
        Check.holds("isSeen at the limit and the width", x.isSeen());
        x.turnMirror(0, 31);
        Check.fails("isSeen beyond the width", x.isSeen());
        x.turnMirror(0, -30);
        Check.holds("isSeen at the opposite of the width", x.isSeen());
        x.turnMirror(0, -31);
        Check.fails("isSeen beyond the opposite", x.isSeen());
        x.turnMirror(0, 0);
        x.dustMirror(0, 1);
        Check.fails("isSeen below the limit", x.isSeen());
        x = Check.train("limit 0; mirror a clarity 0 offset 0;");
        Check.holds("isSeen without light and limit", x.isSeen());
        x = Check.train("limit 10000; width 0;");
        Check.holds("isSeen without mirrors", x.isSeen());
        Check.same("lightAtEnd without mirrors", x.lightAtEnd(), 10000);
        Check.same("tiltAtEnd without mirrors", x.tiltAtEnd(), 0);
    }

    private static void worstMirror() {
        PeriscopeTrain x = Check.train(THREE);
        Check.same("worstMirror", x.worstMirror(), 1);
        // 5000 are lost at the first one and 5000 at the next: the first one of the row counts.
        x = Check.train("mirror a clarity 50 offset 0; mirror b clarity 0 offset 0;");
        Check.same("worstMirror of two", x.worstMirror(), 0);
        x.moveMirror(0, 1);
        Check.same("worstMirror of the row turned round", x.worstMirror(), 1);
        x = Check.train("mirror a clarity 0 offset 0; mirror b clarity 50 offset 0;");
        x.moveMirror(1, 0);
        Check.same("worstMirror of two, by the row", x.worstMirror(), 1);
        x = Check.train("mirror a clarity 100 offset 0; mirror b clarity 100 offset 0;");
        x.moveMirror(1, 0);
        Check.same("worstMirror without a loss", x.worstMirror(), 1);
        PeriscopeTrain none = new PeriscopeTrain();
        Check.refuses("worstMirror of none", none, IllegalStateException.class, () -> none.worstMirror());
    }

    private static void coveredMirror() {
        PeriscopeTrain x = Check.train(THREE);
        x.orderJob(1, 0);
        Check.fails("isCovered ahead of the beginning", x.isCovered(1));
        x.passMinutes(1);
        Check.holds("isCovered", x.isCovered(1));
        Check.fails("isCovered of another", x.isCovered(0));
        Check.same("lightBehind a covered mirror", x.lightBehind(1), 0);
        Check.same("lostAt a covered mirror", x.lostAt(1), 9000);
        Check.same("tiltBehind a covered mirror", x.tiltBehind(1), -30);
        Check.same("lightBehind farther on", x.lightBehind(2), 0);
        Check.same("lightAtEnd", x.lightAtEnd(), 0);
        Check.same("worstMirror", x.worstMirror(), 1);
        Check.fails("isSeen", x.isSeen());
        x.passMinutes(4);
        Check.holds("isCovered in the last but one minute", x.isCovered(1));
        x.passMinutes(1);
        Check.fails("isCovered behind the job", x.isCovered(1));
        Check.same("lightBehind a clean mirror", x.lightBehind(1), 9000);
    }

    private static void rowOfPlaces() {
        PeriscopeTrain x = Check.train(THREE);
        x.moveMirror(2, 0);
        Check.same("mirrorAt 0", x.mirrorAt(0), 2);
        Check.same("mirrorAt 1", x.mirrorAt(1), 0);
        Check.same("mirrorAt 2", x.mirrorAt(2), 1);
        Check.same("placeOf 0", x.placeOf(0), 1);
        Check.same("placeOf 1", x.placeOf(1), 2);
        Check.same("placeOf 2", x.placeOf(2), 0);
        Check.same("lightBehind 2", x.lightBehind(2), 3300);
        Check.same("lightBehind 0", x.lightBehind(0), 2970);
        Check.same("lostAt 0", x.lostAt(0), 330);
        Check.same("tiltBehind 0", x.tiltBehind(0), 28);
        Check.same("lightAtEnd", x.lightAtEnd(), 1485);
        x.moveMirror(1, 0);
        Check.same("lightBehind behind a move", x.lightBehind(1), 5000);
        Check.same("tiltBehind behind a move", x.tiltBehind(1), -50);
    }

    private static void wrongMirrors() {
        PeriscopeTrain none = new PeriscopeTrain();
        PeriscopeTrain three = Check.train(THREE);
        refuseMirror(none, 0);
        refuseMirror(none, -1);
        refuseMirror(three, 3);
        refuseMirror(three, -1);
        refuseMirror(three, 10);
        refuseMirror(three, Integer.MAX_VALUE);
        refuseMirror(three, Integer.MIN_VALUE);
    }

    private static void refuseMirror(PeriscopeTrain x, int m) {
        Class<IndexOutOfBoundsException> due = IndexOutOfBoundsException.class;
        Check.refuses("clarityOf " + m, x, due, () -> x.clarityOf(m));
        Check.refuses("bestClarityOf " + m, x, due, () -> x.bestClarityOf(m));
        Check.refuses("offsetOf " + m, x, due, () -> x.offsetOf(m));
        Check.refuses("placeOf " + m, x, due, () -> x.placeOf(m));
        Check.refuses("lightBehind " + m, x, due, () -> x.lightBehind(m));
        Check.refuses("lostAt " + m, x, due, () -> x.lostAt(m));
        Check.refuses("tiltBehind " + m, x, due, () -> x.tiltBehind(m));
        Check.refuses("isCovered " + m, x, due, () -> x.isCovered(m));
        Check.refuses("mirrorAt " + m, x, due, () -> x.mirrorAt(m));
    }
}
