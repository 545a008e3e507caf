/** Promise 4: disc. */
public final class Promise04DiscTest {
    public static void main(String[] args) {
        Check check = new Check("Promise04");
        pictures(check);
        everyDisc(check);
        wrongNumbers(check);
        check.end();
    }

    private static void pictures(Check check) {
        RasterRules raster = new RasterRules();
        check.due("radius 0", raster.disc(Check.at(2, 2), 0), 1);
        check.picture("radius 0", raster, "", "", "..#");
        check.due("radius 1", raster.disc(Check.at(2, 2), 1), 4);
        check.picture("radius 1", raster, "", "..#", ".###", "..#");
        check.due("radius 2", raster.disc(Check.at(2, 2), 2), 8);
        check.picture("radius 2", raster, "..#", ".###", "#####", ".###", "..#");
        raster.pen(1);
        check.due("made 0", raster.disc(Check.at(2, 2), 1), 5);
        check.picture("made 0", raster, "..#", ".#.#", "#...#", ".#.#", "..#");
        raster.pen(2);
        check.due("cut off and turned over", raster.disc(Check.at(0, 0), 2), 6);
        check.picture("cut off and turned over", raster, "##", "#..#", "....#", ".#.#", "..#");
        check.due("radius 5 has the points 3, 4", new RasterRules().disc(Check.at(10, 10), 5), 81);
        check.due("radius 30 in a corner", new RasterRules().disc(0, 30), 566);
    }

    private static void everyDisc(Check check) {
        for (int y = 0; y < 24; y++) {
            for (int x = 0; x < 24; x++) {
                for (int r = 0; r <= 30; r++) {
                    RasterRules raster = new RasterRules();
                    Model model = new Model();
                    String what = "disc(" + Check.at(x, y) + ", " + r + ")";
                    check.due(what, raster.disc(Check.at(x, y), r), model.disc(Check.at(x, y), r));
                    check.same(what, raster, model);
                }
            }
        }
    }

    private static void wrongNumbers(Check check) {
        RasterRules raster = new RasterRules();
        raster.pen(2);
        for (int bad : Check.noPixels()) {
            check.due("disc(" + bad + ", 3)", raster.disc(bad, 3), RasterRules.BAD);
            check.due("disc(" + bad + ", 31)", raster.disc(bad, 31), RasterRules.BAD);
        }
        for (int bad : Check.noRadii()) {
            check.due("disc(0, " + bad + ")", raster.disc(0, bad), RasterRules.BAD);
        }
        check.picture("after refused discs", raster);
    }
}
