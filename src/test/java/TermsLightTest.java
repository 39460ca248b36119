/** "Terms", "2. Light": what comes to each mirror, what is behind it, and whether it is seen at the end. */
final class TermsLightTest {
    private TermsLightTest() {
    }

    public static void main(String[] args) {
        terms2MirrorsAtFirst();
        terms2RowAsToldAtFirst();
        terms2LightThatComesToTheFirstMirror();
        terms2TiltAtTheWidth();
        terms2TiltAtTheOppositeOfTheWidth();
        terms2TiltOfAMirrorsOwnDoesNotDarkenIt();
        terms2NoLightFartherOn();
        terms2CoveredMirror();
        terms2CoveredIsOnlyTheJobThatBegan();
        terms2LightTimesClarity();
        terms2LostLight();
        terms2TiltWithoutLight();
        terms2TrainWithoutMirrors();
        terms2SeenAtTheLimit();
        terms2SeenAtTheWidth();
        terms2InTheOrderOfTheRow();
        Check.end();
    }

    private static void mirror(String what, PeriscopeTrain x, int mirror, int light, int lost, int tilt) {
        Check.same("lightBehind " + mirror + " " + what, x.lightBehind(mirror), light);
        Check.same("lostAt " + mirror + " " + what, x.lostAt(mirror), lost);
        Check.same("tiltBehind " + mirror + " " + what, x.tiltBehind(mirror), tilt);
    }

    private static void end(String what, PeriscopeTrain x, int light, int tilt, boolean seen) {
        Check.same("lightAtEnd " + what, x.lightAtEnd(), light);
        Check.same("tiltAtEnd " + what, x.tiltAtEnd(), tilt);
        Check.same("isSeen " + what, x.isSeen() ? 1 : 0, seen ? 1 : 0);
    }

    private static void terms2MirrorsAtFirst() {
        int[] clarities = {0, 1, 99, 100};
        int[] offsets = {-90, -89, -1, 0, 1, 89, 90};
        for (int clarity : clarities) {
            for (int offset : offsets) {
                PeriscopeTrain x = Check.train("mirror a clarity " + clarity + " offset "
                        + (offset < 0 ? "- " + -offset : "" + offset) + ";");
                Check.same("clarityOf", x.clarityOf(0), clarity);
                Check.same("bestClarityOf", x.bestClarityOf(0), 100);
                Check.same("offsetOf", x.offsetOf(0), offset);
                Check.fails("isCovered", x.isCovered(0));
                mirror("at first", x, 0, 100 * clarity, 10000 - 100 * clarity, 2 * offset);
            }
        }
    }

    private static void terms2RowAsToldAtFirst() {
        PeriscopeTrain x = Check.train("mirror c clarity 90 offset 1; mirror a clarity 80 offset 2;"
                + "mirror b clarity 70 offset 3;");
        for (int i = 0; i < 3; i++) {
            Check.same("placeOf " + i, x.placeOf(i), i);
            Check.same("mirrorAt " + i, x.mirrorAt(i), i);
        }
        mirror("as told", x, 0, 9000, 1000, 2);
        mirror("as told", x, 1, 7200, 1800, 6);
        mirror("as told", x, 2, 5040, 2160, 12);
    }

    private static void terms2LightThatComesToTheFirstMirror() {
        // A tilt of 0 is not beyond a width of 0, so the first mirror always has light.
        PeriscopeTrain x = Check.train("width 0; mirror a clarity 100 offset 90;");
        mirror("of a width of 0", x, 0, 10000, 0, 180);
        x = Check.train("width 0; mirror a clarity 37 offset 0;");
        mirror("of a width of 0", x, 0, 3700, 6300, 0);
        end("of a width of 0", x, 3700, 0, true);
    }

    private static void lightBehindTilt(int width, int offset, boolean due) {
        PeriscopeTrain x = Check.train("width " + width + "; mirror a clarity 80 offset 0;"
                + "mirror b clarity 50 offset 0;");
        x.turnMirror(0, offset);
        String what = "at a tilt of " + 2 * offset + " and a width of " + width;
        mirror(what, x, 0, 8000, 2000, 2 * offset);
        mirror(what, x, 1, due ? 4000 : 0, due ? 4000 : 8000, 2 * offset);
    }

    private static void terms2TiltAtTheWidth() {
        lightBehindTilt(60, 29, true);
        lightBehindTilt(60, 30, true);
        lightBehindTilt(60, 31, false);
        lightBehindTilt(59, 29, true);
        lightBehindTilt(59, 30, false);
        lightBehindTilt(0, 0, true);
        lightBehindTilt(0, 1, false);
        lightBehindTilt(1, 1, false);
        lightBehindTilt(2, 1, true);
        lightBehindTilt(180, 90, true);
        lightBehindTilt(179, 90, false);
    }

    private static void terms2TiltAtTheOppositeOfTheWidth() {
        lightBehindTilt(60, -29, true);
        lightBehindTilt(60, -30, true);
        lightBehindTilt(60, -31, false);
        lightBehindTilt(59, -29, true);
        lightBehindTilt(59, -30, false);
        lightBehindTilt(0, -1, false);
        lightBehindTilt(1, -1, false);
        lightBehindTilt(2, -1, true);
        lightBehindTilt(180, -90, true);
        lightBehindTilt(179, -90, false);
    }

    private static void terms2TiltOfAMirrorsOwnDoesNotDarkenIt() {
        PeriscopeTrain x = Check.train("mirror a clarity 80 offset 90;");
        mirror("of its own tilt", x, 0, 8000, 2000, 180);
        end("beyond the width", x, 8000, 180, false);
        // Beyond the width ahead of b, and back within it behind b: b is dark all the same.
        x = Check.train("mirror a clarity 80 offset 31; mirror b clarity 50 offset -31;");
        mirror("of the tilt ahead", x, 1, 0, 8000, 0);
        end("back within the width", x, 0, 0, false);
    }

    private static void terms2NoLightFartherOn() {
        PeriscopeTrain x = Check.train("mirror a clarity 80 offset 31; mirror b clarity 50 offset -31;"
                + "mirror c clarity 100 offset 0; mirror d clarity 100 offset 0;");
        mirror("beyond the width", x, 1, 0, 8000, 0);
        // The tilt ahead of c is 0, but no light comes to it any more.
        mirror("farther on", x, 2, 0, 0, 0);
        mirror("farther on", x, 3, 0, 0, 0);
        end("farther on", x, 0, 0, false);
        x.turnMirror(0, 30);
        mirror("within the width", x, 2, 4000, 0, -2);
        end("within the width", x, 4000, -2, true);
    }

    private static void terms2CoveredMirror() {
        for (int covered = 0; covered < 3; covered++) {
            PeriscopeTrain x = Check.train("mirror a clarity 90 offset 1; mirror b clarity 80 offset 2;"
                    + "mirror c clarity 70 offset 3;");
            x.orderJob(covered, 2);
            String what = "with " + covered + " covered";
            end("ahead of the beginning", x, 5040, 12, true);
            x.passMinutes(1);
            mirror(what, x, 0, covered == 0 ? 0 : 9000, covered == 0 ? 10000 : 1000, 2);
            mirror(what, x, 1, covered <= 1 ? 0 : 7200, covered == 0 ? 0 : covered == 1 ? 9000 : 1800, 6);
            mirror(what, x, 2, 0, covered <= 1 ? 0 : 7200, 12);
            end(what, x, 0, 12, false);
            x.passMinutes(18);
            end(what + " at its last minute", x, 0, 12, false);
            x.passMinutes(1);
            Check.holds("isSeen behind the job", x.isSeen());
        }
    }

    private static void terms2CoveredIsOnlyTheJobThatBegan() {
        PeriscopeTrain x = Check.train("mirror a clarity 90 offset 1; mirror b clarity 80 offset 2;");
        x.orderJob(0, 0);
        x.orderJob(1, 0);
        x.orderJob(0, 2);
        covered("ahead of the first minute", x, false, false);
        x.passMinutes(1);
        covered("of the first job", x, true, false);
        x.passMinutes(1);
        covered("between the jobs", x, false, false);
        end("between the jobs", x, 8000, 6, true);
        x.passMinutes(1);
        covered("of the second job", x, false, true);
        x.passMinutes(2);
        covered("behind the second job", x, false, false);
        x.passMinutes(1);
        covered("of the third job", x, true, false);
        x.cancelJob(0);
        covered("behind a job that was cancelled", x, false, false);
    }

    private static void covered(String what, PeriscopeTrain x, boolean first, boolean second) {
        Check.same("isCovered 0 " + what, x.isCovered(0) ? 1 : 0, first ? 1 : 0);
        Check.same("isCovered 1 " + what, x.isCovered(1) ? 1 : 0, second ? 1 : 0);
    }

    private static void terms2LightTimesClarity() {
        // Cut at each mirror: 3300, 1089, 359 (.37), 118 (.47), 38 (.94), 12 (.54), 3 (.96), 0 (.99).
        StringBuilder text = new StringBuilder();
        for (int i = 0; i < 8; i++) {
            text.append("mirror m").append(i).append(" clarity 33 offset 0;");
        }
        PeriscopeTrain x = Check.train(text.toString());
        int[] light = {3300, 1089, 359, 118, 38, 12, 3, 0};
        int comes = 10000;
        for (int i = 0; i < 8; i++) {
            mirror("at each 33 of 100", x, i, light[i], comes - light[i], 0);
            comes = light[i];
        }
        x = Check.train("mirror a clarity 1 offset 0; mirror b clarity 1 offset 0; mirror c clarity 100 offset 0;"
                + "mirror d clarity 99 offset 0;");
        mirror("at 1 of 100", x, 0, 100, 9900, 0);
        mirror("at 1 of 100", x, 1, 1, 99, 0);
        mirror("at 100 of 100", x, 2, 1, 0, 0);
        mirror("of 1 at 99 of 100", x, 3, 0, 1, 0);
    }

    private static void terms2LostLight() {
        PeriscopeTrain x = Check.train("mirror a clarity 100 offset 0; mirror b clarity 0 offset 0;"
                + "mirror c clarity 50 offset 0;");
        mirror("with a clarity of 100", x, 0, 10000, 0, 0);
        mirror("with a clarity of 0", x, 1, 0, 10000, 0);
        mirror("behind all is lost", x, 2, 0, 0, 0);
    }

    private static void terms2TiltWithoutLight() {
        PeriscopeTrain x = Check.train("mirror a clarity 0 offset 90; mirror b clarity 50 offset 90;"
                + "mirror c clarity 50 offset -89;");
        mirror("without light", x, 0, 0, 10000, 180);
        mirror("without light", x, 1, 0, 0, 360);
        mirror("without light", x, 2, 0, 0, 182);
        end("without light", x, 0, 182, false);
        x.orderJob(0, 2);
        x.passMinutes(1);
        Check.same("tiltBehind a covered mirror", x.tiltBehind(0), 180);
    }

    private static void terms2TrainWithoutMirrors() {
        end("of a new object", new PeriscopeTrain(), 10000, 0, true);
        end("of an empty tape", Check.train(""), 10000, 0, true);
        end("with lines only", Check.train("width 0; limit 10000;"), 10000, 0, true);
        PeriscopeTrain x = Check.train("mirror a clarity 5 offset 90;");
        end("with a mirror", x, 500, 180, false);
        Check.tell(x, "limit 10000;");
        end("without the mirror", x, 10000, 0, true);
        x.passMinutes(100);
        end("100 minutes later", x, 10000, 0, true);
        Check.same("lightAfter", x.lightAfter(100), 10000);
        Check.same("minutesUntilSeen", x.minutesUntilSeen(), 0);
        Check.same("bestToClean", x.bestToClean(), -1);
        Check.refuses("worstMirror", x, Check.STATE, () -> x.worstMirror());
    }

    private static void terms2SeenAtTheLimit() {
        for (int limit = 4998; limit <= 5002; limit++) {
            PeriscopeTrain x = Check.train("limit " + limit + "; mirror a clarity 50 offset 0;");
            end("with a limit of " + limit, x, 5000, 0, limit <= 5000);
        }
        end("with a limit of 0", Check.train("limit 0; mirror a clarity 0 offset 0;"), 0, 0, true);
        end("with a limit of 1", Check.train("limit 1; mirror a clarity 0 offset 0;"), 0, 0, false);
        end("with a limit of 10000", Check.train("limit 10000; mirror a clarity 100 offset 0;"), 10000, 0, true);
        end("with a limit of 10000", Check.train("limit 10000; mirror a clarity 99 offset 0;"), 9900, 0, false);
        end("with the limit of 1000", Check.train("mirror a clarity 10 offset 0;"), 1000, 0, true);
        end("with the limit of 1000", Check.train("mirror a clarity 37 offset 0; mirror b clarity 27 offset 0;"),
                999, 0, false);
    }

    private static void terms2SeenAtTheWidth() {
        int[] widths = {0, 1, 2, 59, 60, 61, 179, 180};
        for (int width : widths) {
            for (int offset = -90; offset <= 90; offset++) {
                PeriscopeTrain x = Check.train("width " + width + "; mirror a clarity 100 offset 0;");
                x.turnMirror(0, offset);
                boolean due = 2 * offset <= width && 2 * offset >= -width;
                end("with a width of " + width, x, 10000, 2 * offset, due);
            }
        }
        // Both have to be: enough light, and within the width.
        end("of too little light", Check.train("mirror a clarity 9 offset 0;"), 900, 0, false);
        end("beyond the width", Check.train("mirror a clarity 10 offset 31;"), 1000, 62, false);
        end("of neither", Check.train("mirror a clarity 9 offset 31;"), 900, 62, false);
        // Without a limit of light, the tilt still counts.
        end("beyond the width with a limit of 0", Check.train("limit 0; mirror a clarity 0 offset 31;"), 0, 62, false);
    }

    private static void terms2InTheOrderOfTheRow() {
        PeriscopeTrain x = Check.train("mirror a clarity 90 offset 31; mirror b clarity 50 offset -31;"
                + "mirror c clarity 80 offset 0;");
        end("as told", x, 0, 0, false);
        // c, a, b: dark at b; a, b are the last ones otherwise, too.
        x.moveMirror(2, 0);
        mirror("behind a move", x, 2, 8000, 2000, 0);
        mirror("behind a move", x, 0, 7200, 800, 62);
        mirror("behind a move", x, 1, 0, 7200, 0);
        // c, b, a: dark at a.
        x.moveMirror(1, 1);
        mirror("behind another move", x, 1, 4000, 4000, -62);
        mirror("behind another move", x, 0, 0, 4000, 0);
        x.turnMirror(1, -30);
        mirror("behind a turn", x, 0, 3600, 400, 2);
        end("behind a turn", x, 3600, 2, true);
    }
}
