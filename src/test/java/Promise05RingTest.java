/** Promise 5: ring. */
public final class Promise05RingTest {
    public static void main(String[] args) {
        Check check = new Check("Promise05");
        pictures(check);
        everyRing(check);
        wrongNumbers(check);
        check.end();
    }

    private static void pictures(Check check) {
        draws(check, 0, 1, "", "", "", "...#");
        draws(check, 1, 4, "", "", "...#", "..#.#", "...#");
        draws(check, 2, 12, "", "..###", ".#...#", ".#...#", ".#...#", "..###");
        draws(check, 3, 16, "..###", ".#...#", "#.....#", "#.....#", "#.....#", ".#...#", "..###");

        RasterRules raster = new RasterRules();
        raster.ring(Check.at(3, 3), 3);
        raster.pen(1);
        check.due("made 0", raster.ring(Check.at(4, 3), 3), 4);
        RasterRules corner = new RasterRules();
        corner.pen(2);
        check.due("cut off at the corner", corner.ring(0, 2), 4);
        check.picture("cut off at the corner", corner, "..#", "..#", "##");
        check.due("wholly off the raster", new RasterRules().ring(Check.at(11, 11), 30), 0);
    }

    /** With pen 2 too: a point that the ring has twice is turned over once. */
    private static void draws(Check check, int r, int size, String... picture) {
        for (int pen = 0; pen <= 2; pen += 2) {
            RasterRules raster = new RasterRules();
            raster.pen(pen);
            check.due("radius " + r, raster.ring(Check.at(3, 3), r), size);
            check.picture("radius " + r, raster, picture);
        }
    }

    private static void everyRing(Check check) {
        for (int y = 0; y < 24; y++) {
            for (int x = 0; x < 24; x++) {
                for (int r = 0; r <= 30; r++) {
                    RasterRules raster = new RasterRules();
                    Model model = new Model();
                    raster.pen(2);
                    model.pen(2);
                    String what = "ring(" + Check.at(x, y) + ", " + r + ")";
                    check.due(what, raster.ring(Check.at(x, y), r), model.ring(Check.at(x, y), r));
                    check.same(what, raster, model);
                }
            }
        }
    }

    private static void wrongNumbers(Check check) {
        RasterRules raster = new RasterRules();
        raster.pen(2);
        for (int bad : Check.noPixels()) {
            check.due("ring(" + bad + ", 3)", raster.ring(bad, 3), RasterRules.BAD);
            check.due("ring(" + bad + ", -1)", raster.ring(bad, -1), RasterRules.BAD);
        }
        for (int bad : Check.noRadii()) {
            check.due("ring(0, " + bad + ")", raster.ring(0, bad), RasterRules.BAD);
        }
        check.picture("after refused rings", raster);
    }
}
