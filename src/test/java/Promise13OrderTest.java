import java.util.function.ToIntFunction;

/** Promise 13: what is refused changes nothing; and long runs of all calls, right and wrong ones, against the model. */
public final class Promise13OrderTest {
    private static final int CALLS = 512;
    private static int state = 20261115;

    public static void main(String[] args) {
        Check check = new Check("Promise13");
        check.sentence("A call that is refused, because a number is not as said there, changes nothing", Promise13OrderTest::refused);
        check.sentence("changes nothing: with the greatest and the smallest int", Promise13OrderTest::extremes);
        check.sentence("changes nothing: for the calls that come after it", Promise13OrderTest::asIfNotMade);
        check.sentence("all calls, right and wrong ones, in runs of 512", Promise13OrderTest::longRuns);
        check.end();
    }

    /** Just beyond each limit that the document names, for every method that can refuse. */
    private static void refused(Check check) {
        with(check, -1, 3, 768, 31, 25);
        with(check, -1, -1, 24, -1, -25);
        with(check, 24, 3, -32, 31, 25);
        with(check, 24, -1, 760, -1, -25);
    }

    private static void extremes(Check check) {
        int[] extremes = {Integer.MAX_VALUE, Integer.MIN_VALUE};
        for (int one : extremes) {
            for (int other : extremes) {
                with(check, one, other, one, other, one);
                with(check, one, one, other, one, other);
            }
        }
    }

    /** Each call with one wrong number at each place, and with all of them wrong. */
    private static void with(Check check, int row, int pen, int pixel, int radius, int step) {
        bad(check, "pen " + pen, raster -> raster.pen(pen) ? 1 : RasterRules.BAD);
        bad(check, "line from " + pixel, raster -> raster.line(pixel, 395));
        bad(check, "line to " + pixel, raster -> raster.line(395, pixel));
        bad(check, "line, all wrong", raster -> raster.line(pixel, pixel));
        bad(check, "disc around " + pixel, raster -> raster.disc(pixel, 5));
        bad(check, "disc with " + radius, raster -> raster.disc(395, radius));
        bad(check, "disc, all wrong", raster -> raster.disc(pixel, radius));
        bad(check, "ring around " + pixel, raster -> raster.ring(pixel, 5));
        bad(check, "ring with " + radius, raster -> raster.ring(395, radius));
        bad(check, "ring, all wrong", raster -> raster.ring(pixel, radius));
        bad(check, "blot around " + pixel, raster -> raster.blot(pixel, 5, 5));
        bad(check, "blot with p = " + radius, raster -> raster.blot(395, radius, 5));
        bad(check, "blot with q = " + radius, raster -> raster.blot(395, 5, radius));
        bad(check, "blot, all wrong", raster -> raster.blot(pixel, radius, radius));
        bad(check, "triangle, first " + pixel, raster -> raster.triangle(pixel, 0, 395));
        bad(check, "triangle, second " + pixel, raster -> raster.triangle(0, pixel, 395));
        bad(check, "triangle, third " + pixel, raster -> raster.triangle(0, 395, pixel));
        bad(check, "triangle, all wrong", raster -> raster.triangle(pixel, pixel, pixel));
        bad(check, "flood " + pixel, raster -> raster.flood(pixel));
        bad(check, "get " + pixel, raster -> raster.get(pixel));
        bad(check, "row " + row, raster -> raster.row(row));
        bad(check, "move by dx " + step, raster -> raster.move(step, 1));
        bad(check, "move by dy " + step, raster -> raster.move(1, step));
        bad(check, "move, all wrong", raster -> raster.move(step, step));
    }

    private static void bad(Check check, String call, ToIntFunction<RasterRules> ask) {
        check.refused(call, RasterRules.BAD, ask);
    }

    /** The same run once with refused calls after each call and once without: the answers are the same. */
    private static void asIfNotMade(Check check) {
        for (int pen = 0; pen <= 2; pen++) {
            RasterRules plain = new RasterRules();
            RasterRules disturbed = new RasterRules();
            for (int i = 0; i < 40; i++) {
                int kind = i % 8;
                check.due("call " + i, call(disturbed, kind, i, pen), call(plain, kind, i, pen));
                disturbed.pen(3);
                disturbed.line(5, 24);
                disturbed.disc(5, 31);
                disturbed.ring(5, -1);
                disturbed.blot(5, 0, 31);
                disturbed.triangle(0, 5, 792);
                disturbed.flood(-1);
                disturbed.get(1 << 20);
                disturbed.row(24);
                disturbed.move(-25, 3);
            }
            check.rows("after the run", disturbed, Check.rowsOf(plain));
        }
    }

    private static int call(RasterRules raster, int kind, int i, int pen) {
        int pixel = Check.at(i * 7 % 24, i * 5 % 24);
        switch (kind) {
            case 0: return raster.line(pixel, 395);
            case 1: return raster.pen((pen + i / 8) % 3) ? 1 : 0;
            case 2: return raster.disc(pixel, i % 9);
            case 3: return raster.triangle(pixel, 395, 23);
            case 4: return raster.flood(pixel);
            case 5: return raster.ring(pixel, i % 12);
            case 6: return raster.move(i % 5 - 2, i % 3 - 1);
            default: return raster.blot(pixel, i % 7, i % 4);
        }
    }

    private static void longRuns(Check check) {
        for (int run = 0; run < 300; run++) {
            longRun(check, run);
        }
    }

    private static void longRun(Check check, int run) {
        RasterRules raster = new RasterRules();
        Model model = new Model();
        for (int call = 0; call < CALLS; call++) {
            String what = "run " + run + ", call " + call;
            step(check, what, raster, model);
            // Looking is a call too; the last looks are at the object's very limit.
            call++;
            int y = below(24);
            check.due(what + ", row(" + y + ")", raster.row(y), model.row(y));
        }
    }

    private static void step(Check check, String what, RasterRules raster, Model model) {
        int i = pixel();
        int j = pixel();
        int k = pixel();
        int p = below(8) == 0 ? below(33) - 1 : below(9);
        int q = below(8) == 0 ? below(33) - 1 : below(9);
        boolean right = Check.isPixel(i);
        boolean radius = p >= 0 && p <= 30;
        switch (below(12)) {
            case 0: {
                int pen = below(4);
                check.due(what + ", pen", raster.pen(pen), pen < 3);
                if (pen < 3) {
                    model.pen(pen);
                }
                break;
            }
            case 1:
            case 2:
                check.due(what + ", line", raster.line(i, j), right && Check.isPixel(j) ? model.line(i, j) : -1);
                break;
            case 3:
                check.due(what + ", disc", raster.disc(i, p), right && radius ? model.disc(i, p) : -1);
                break;
            case 4:
                check.due(what + ", ring", raster.ring(i, p), right && radius ? model.ring(i, p) : -1);
                break;
            case 5: {
                boolean good = right && radius && q >= 0 && q <= 30;
                check.due(what + ", blot", raster.blot(i, p, q), good ? model.blot(i, p, q) : -1);
                break;
            }
            case 6: {
                boolean good = right && Check.isPixel(j) && Check.isPixel(k);
                check.due(what + ", triangle", raster.triangle(i, j, k), good ? model.triangle(i, j, k) : -1);
                break;
            }
            case 7:
            case 8:
                check.due(what + ", flood", raster.flood(i), right ? model.flood(i) : -1);
                break;
            case 9:
                check.due(what + ", get", raster.get(i), right ? model.get(i) : -1);
                break;
            case 10:
                check.due(what + ", count", raster.count(), model.count());
                break;
            default: {
                int dx = below(6) == 0 ? below(53) - 26 : below(9) - 4;
                int dy = below(6) == 0 ? below(53) - 26 : below(9) - 4;
                boolean good = Math.abs(dx) <= 24 && Math.abs(dy) <= 24;
                check.due(what + ", move", raster.move(dx, dy), good ? model.move(dx, dy) : -1);
                break;
            }
        }
    }

    private static int pixel() {
        return below(12) == 0 ? below(1000) - 100 : Check.at(below(24), below(24));
    }

    /** A fixed walk, so that every run of the test is the same. */
    private static int below(int bound) {
        state = state * 1103515245 + 12345;
        return (state >>> 8) % bound;
    }
}
