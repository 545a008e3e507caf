import java.util.function.ToIntFunction;

/** 'What it is': the number of calls that an object is used for. */
public final class TermsCallsTest {
    private static final int CALLS = 512;

    public static void main(String[] args) {
        Check check = new Check("TermsCalls");
        check.sentence("An object is used for at most 512 calls after it has been made", TermsCallsTest::all512);
        check.sentence("what later calls answer is free", TermsCallsTest::laterOnesEnd);
        check.end();
    }

    private static void all512(Check check) {
        lastCall(check, "pen(2)", 1, raster -> raster.pen(2) ? 1 : 0);
        lastCall(check, "pen(3)", 0, raster -> raster.pen(3) ? 1 : 0);
        lastCall(check, "line(0, 5)", 6, raster -> raster.line(0, 5));
        lastCall(check, "disc(395, 5)", 81, raster -> raster.disc(395, 5));
        lastCall(check, "ring(395, 5)", 28, raster -> raster.ring(395, 5));
        lastCall(check, "blot(395, 3, 1)", 9, raster -> raster.blot(395, 3, 1));
        lastCall(check, "triangle(0, 3, 96)", 10, raster -> raster.triangle(0, 3, 96));
        lastCall(check, "flood(0)", 576, raster -> raster.flood(0));
        lastCall(check, "get(0)", 0, raster -> raster.get(0));
        lastCall(check, "get(24)", RasterRules.BAD, raster -> raster.get(24));
        lastCall(check, "count()", 0, raster -> raster.count());
        lastCall(check, "row(23)", 0, raster -> raster.row(23));
        lastCall(check, "move(1, 1)", 0, raster -> raster.move(1, 1));
        eachCallAgainAndAgain(check);
    }

    /** 511 calls leave the raster empty with pen 0; refused ones, and full floods, are among them. */
    private static void lastCall(Check check, String call, int want, ToIntFunction<RasterRules> ask) {
        RasterRules raster = new RasterRules();
        check.due("refused line", raster.line(0, 24), RasterRules.BAD);
        for (int i = 1; i < CALLS - 2; i++) {
            check.due("flood(759), call " + (i + 1), raster.flood(759), 576);
        }
        check.due("move(0, 24), call 511", raster.move(0, 24), 576);
        check.due(call + ", call 512", ask.applyAsInt(raster), want);
    }

    private static void eachCallAgainAndAgain(Check check) {
        RasterRules turned = new RasterRules();
        RasterRules moved = new RasterRules();
        RasterRules refused = new RasterRules();
        turned.pen(2);
        moved.line(0, 23);
        refused.line(0, 23);
        for (int i = 2; i <= CALLS - 1; i++) {
            check.due("disc with pen 2, call " + i, turned.disc(395, 5), 81);
            check.due("move(0, 23) and back, call " + i, moved.move(0, i % 2 == 0 ? 23 : -23), 0);
            check.due("move(25, 0), call " + i, refused.move(25, 0), RasterRules.BAD);
        }
        check.due("call 512 after discs", turned.count(), 0);
        check.due("call 512 after moves", moved.row(0), Check.FULL_ROW);
        check.due("call 512 after refused moves", refused.row(0), Check.FULL_ROW);
    }

    /** By LANGUAGE.md no call may ever throw or fail to end, so not these either; what they answer is not looked at. */
    private static void laterOnesEnd(Check check) {
        RasterRules raster = new RasterRules();
        int number = 0;
        for (int i = 0; i < 20 * CALLS; i++) {
            number = number * 1103515245 + 12345;
            int pixel = Check.at((number >>> 8) % 24, (number >>> 16) % 24);
            raster.pen(i % 3);
            raster.line(pixel, number);
            raster.line(pixel, 395);
            raster.disc(pixel, i % 33);
            raster.ring(pixel, i % 33);
            raster.blot(pixel, i % 33, i % 31);
            raster.triangle(pixel, 395, i % 800);
            raster.flood(pixel);
            raster.get(number);
            raster.row(i % 26);
            raster.move(i % 53 - 26, i % 51 - 25);
            raster.count();
        }
        check.due("all calls ended", true, true);
    }
}
