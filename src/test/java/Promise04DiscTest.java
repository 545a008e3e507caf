/** Promise 4: disc, and the disc of 'Terms'. */
public final class Promise04DiscTest {
    public static void main(String[] args) {
        Check check = new Check("Promise04");
        check.sentence("all points (x, y) with (x - a)^2 + (y - b)^2 <= r^2", Promise04DiscTest::points);
        check.sentence("a disc with the radius 0", Promise04DiscTest::radius0);
        check.sentence("a disc with the radius 30", Promise04DiscTest::radius30);
        check.sentence("Draws a disc around a pixel", Promise04DiscTest::everyDisc);
        check.sentence("answers how many pixels changed", Promise04DiscTest::changed);
        check.sentence("BAD if middle is no pixel's number", Promise04DiscTest::badMiddle);
        check.sentence("or r is outside 0..30", Promise04DiscTest::badRadius);
        check.end();
    }

    private static void points(Check check) {
        RasterRules one = new RasterRules();
        one.disc(Check.at(2, 2), 1);
        check.picture("radius 1", one, "", "..#", ".###", "..#");
        RasterRules two = new RasterRules();
        two.disc(Check.at(2, 2), 2);
        check.picture("radius 2", two, "..#", ".###", "#####", ".###", "..#");
        // 3^2 + 4^2 = 5^2: these points are on the very border.
        RasterRules five = new RasterRules();
        five.disc(Check.at(5, 5), 5);
        check.picture("radius 5", five, ".....#", "..#######", ".#########", ".#########", ".#########", "###########",
            ".#########", ".#########", ".#########", "..#######", ".....#");
    }

    private static void radius0(Check check) {
        for (int pixel : Check.pixels()) {
            RasterRules raster = new RasterRules();
            int[] rows = new int[24];
            rows[pixel / 32] = 1 << pixel % 32;
            check.due("disc(" + pixel + ", 0)", raster.disc(pixel, 0), 1);
            check.rows("disc(" + pixel + ", 0)", raster, rows);
        }
    }

    private static void radius30(Check check) {
        RasterRules raster = new RasterRules();
        int[] rows = new int[24];
        java.util.Arrays.fill(rows, Check.FULL_ROW);
        // 19^2 + 23^2 = 890, 20^2 + 22^2 = 884, 21^2 + 21^2 = 882; 20^2 + 23^2 = 929, 21^2 + 22^2 = 925.
        rows[20] = (1 << 23) - 1;
        rows[21] = (1 << 22) - 1;
        rows[22] = (1 << 21) - 1;
        rows[23] = (1 << 20) - 1;
        check.due("disc(0, 30)", raster.disc(0, 30), 566);
        check.rows("disc(0, 30)", raster, rows);
        check.due("disc(23, 30)", new RasterRules().disc(23, 30), 566);
        check.due("disc(736, 30)", new RasterRules().disc(736, 30), 566);
        check.due("disc(759, 30)", new RasterRules().disc(759, 30), 566);
        check.due("disc(395, 30)", new RasterRules().disc(395, 30), 576);
        check.due("disc(0, 29)", new RasterRules().disc(0, 29), 557);
    }

    private static void everyDisc(Check check) {
        for (int pixel : Check.pixels()) {
            for (int r = 0; r <= 30; r++) {
                RasterRules raster = new RasterRules();
                Model model = new Model();
                String what = "disc(" + pixel + ", " + r + ")";
                check.due(what, raster.disc(pixel, r), model.disc(pixel, r));
                check.same(what, raster, model);
            }
        }
    }

    private static void changed(Check check) {
        RasterRules raster = new RasterRules();
        check.due("all new", raster.disc(Check.at(2, 2), 1), 5);
        check.due("none new", raster.disc(Check.at(2, 2), 1), 0);
        check.due("some new", raster.disc(Check.at(2, 2), 2), 8);
        raster.pen(1);
        check.due("made 0", raster.disc(Check.at(2, 2), 1), 5);
        check.picture("made 0", raster, "..#", ".#.#", "#...#", ".#.#", "..#");
        check.due("made 0 again", raster.disc(Check.at(2, 2), 1), 0);
        raster.pen(2);
        check.due("turned over", raster.disc(Check.at(0, 0), 2), 6);
        check.picture("turned over", raster, "##", "#..#", "....#", ".#.#", "..#");
    }

    private static void badMiddle(Check check) {
        for (int bad : Check.noPixels()) {
            check.refused("disc(" + bad + ", 3)", RasterRules.BAD, raster -> raster.disc(bad, 3));
            check.refused("disc(" + bad + ", 31)", RasterRules.BAD, raster -> raster.disc(bad, 31));
        }
    }

    private static void badRadius(Check check) {
        for (int bad : Check.outside(0, 30)) {
            check.refused("disc(395, " + bad + ")", RasterRules.BAD, raster -> raster.disc(395, bad));
        }
    }
}
