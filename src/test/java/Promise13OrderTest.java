/** Promise 13: what is refused changes nothing; and long runs of all calls, right and wrong ones, against the model. */
public final class Promise13OrderTest {
    private static final int CALLS = 512;
    private static int state = 20261115;

    public static void main(String[] args) {
        Check check = new Check("Promise13");
        for (int pen = 0; pen <= 2; pen++) {
            refusedChangesNothing(check, pen);
        }
        for (int run = 0; run < 300; run++) {
            longRun(check, run);
        }
        check.end();
    }

    private static void refusedChangesNothing(Check check, int pen) {
        Model model = new Model();
        RasterRules raster = new RasterRules();
        raster.disc(Check.at(4, 4), 5);
        model.disc(Check.at(4, 4), 5);
        raster.pen(pen);
        model.pen(pen);
        check.due("pen(3)", raster.pen(3), false);
        check.due("pen(-1)", raster.pen(-1), false);
        check.due("line(0, 24)", raster.line(0, 24), -1);
        check.due("line(768, 0)", raster.line(768, 0), -1);
        check.due("disc(0, 31)", raster.disc(0, 31), -1);
        check.due("disc(-1, 3)", raster.disc(-1, 3), -1);
        check.due("ring(0, -1)", raster.ring(0, -1), -1);
        check.due("ring(31, 3)", raster.ring(31, 3), -1);
        check.due("blot(0, 31, 3)", raster.blot(0, 31, 3), -1);
        check.due("blot(0, 3, -1)", raster.blot(0, 3, -1), -1);
        check.due("blot(24, 3, 3)", raster.blot(24, 3, 3), -1);
        check.due("triangle(0, 5, 24)", raster.triangle(0, 5, 24), -1);
        check.due("triangle(24, 5, 0)", raster.triangle(24, 5, 0), -1);
        check.due("flood(24)", raster.flood(24), -1);
        check.due("get(24)", raster.get(24), -1);
        check.due("row(24)", raster.row(24), -1);
        check.due("move(25, 1)", raster.move(25, 1), -1);
        check.due("move(1, -25)", raster.move(1, -25), -1);
        check.same("after refused calls", raster, model);
        check.due("the pen is kept", raster.line(0, Check.at(9, 9)), model.line(0, Check.at(9, 9)));
        check.same("the pen is kept", raster, model);
    }

    private static void longRun(Check check, int run) {
        RasterRules raster = new RasterRules();
        Model model = new Model();
        for (int call = 0; call < CALLS; call++) {
            String what = "run " + run + ", call " + call;
            step(check, what, raster, model);
            // Looking is a call too; the last looks are at the object's very limit.
            call++;
            int y = below(24);
            check.due(what + ", row(" + y + ")", raster.row(y), model.row(y));
        }
    }

    private static void step(Check check, String what, RasterRules raster, Model model) {
        int i = pixel();
        int j = pixel();
        int k = pixel();
        int p = below(8) == 0 ? below(33) - 1 : below(9);
        int q = below(8) == 0 ? below(33) - 1 : below(9);
        boolean right = isPixel(i);
        boolean radius = p >= 0 && p <= 30;
        switch (below(12)) {
            case 0: {
                int pen = below(4);
                check.due(what + ", pen", raster.pen(pen), pen < 3);
                if (pen < 3) {
                    model.pen(pen);
                }
                break;
            }
            case 1:
            case 2:
                check.due(what + ", line", raster.line(i, j), right && isPixel(j) ? model.line(i, j) : -1);
                break;
            case 3:
                check.due(what + ", disc", raster.disc(i, p), right && radius ? model.disc(i, p) : -1);
                break;
            case 4:
                check.due(what + ", ring", raster.ring(i, p), right && radius ? model.ring(i, p) : -1);
                break;
            case 5: {
                boolean good = right && radius && q >= 0 && q <= 30;
                check.due(what + ", blot", raster.blot(i, p, q), good ? model.blot(i, p, q) : -1);
                break;
            }
            case 6: {
                boolean good = right && isPixel(j) && isPixel(k);
                check.due(what + ", triangle", raster.triangle(i, j, k), good ? model.triangle(i, j, k) : -1);
                break;
            }
            case 7:
            case 8:
                check.due(what + ", flood", raster.flood(i), right ? model.flood(i) : -1);
                break;
            case 9:
                check.due(what + ", get", raster.get(i), right ? model.get(i) : -1);
                break;
            case 10:
                check.due(what + ", count", raster.count(), model.count());
                break;
            default: {
                int dx = below(6) == 0 ? below(53) - 26 : below(9) - 4;
                int dy = below(6) == 0 ? below(53) - 26 : below(9) - 4;
                boolean good = Math.abs(dx) <= 24 && Math.abs(dy) <= 24;
                check.due(what + ", move", raster.move(dx, dy), good ? model.move(dx, dy) : -1);
                break;
            }
        }
    }

    private static boolean isPixel(int number) {
        return number >= 0 && number < 768 && number % 32 < 24;
    }

    private static int pixel() {
        return below(12) == 0 ? below(1000) - 100 : Check.at(below(24), below(24));
    }

    /** A fixed walk, so that every run of the test is the same. */
    private static int below(int bound) {
        state = state * 1103515245 + 12345;
        return (state >>> 8) % bound;
    }
}
