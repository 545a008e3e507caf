/** Promise 6: blot, and the blot of 'Terms'. */
public final class Promise06BlotTest {
    public static void main(String[] args) {
        Check check = new Check("Promise06");
        check.sentence("all points (x, y) with q^2 * (x - a)^2 + p^2 * (y - b)^2 <= p^2 * q^2", Promise06BlotTest::points);
        check.sentence("<= p^2 * q^2: the points on the border, too", Promise06BlotTest::border);
        check.sentence("p = 0: q^2 * (x - a)^2 <= 0, a whole column", Promise06BlotTest::column);
        check.sentence("q = 0: p^2 * (y - b)^2 <= 0, a whole row", Promise06BlotTest::row);
        check.sentence("p = 0 and q = 0: 0 <= 0, all pixels", Promise06BlotTest::all);
        check.sentence("p or q is 30", Promise06BlotTest::greatest);
        check.sentence("Draws a blot around a pixel", Promise06BlotTest::manyBlots);
        check.sentence("answers how many pixels changed", Promise06BlotTest::changed);
        check.sentence("BAD if middle is no pixel's number", Promise06BlotTest::badMiddle);
        check.sentence("or p or q is outside 0..30: p", Promise06BlotTest::badP);
        check.sentence("or p or q is outside 0..30: q", Promise06BlotTest::badQ);
        check.end();
    }

    private static void points(Check check) {
        RasterRules wide = new RasterRules();
        check.due("wide", wide.blot(Check.at(3, 1), 3, 1), 9);
        check.picture("wide", wide, "...#", "#######", "...#");
        RasterRules high = new RasterRules();
        check.due("high", high.blot(Check.at(1, 3), 1, 3), 9);
        check.picture("high", high, ".#", ".#", ".#", "###", ".#", ".#", ".#");
        RasterRules round = new RasterRules();
        check.due("round", round.blot(Check.at(2, 2), 2, 2), 13);
        check.picture("round", round, "..#", ".###", "#####", ".###", "..#");
        RasterRules oval = new RasterRules();
        check.due("oval", oval.blot(Check.at(4, 2), 4, 2), 25);
        check.picture("oval", oval, "....#", ".#######", "#########", ".#######", "....#");
    }

    private static void border(Check check) {
        for (int p = 1; p <= 11; p++) {
            for (int q = 1; q <= 11; q++) {
                RasterRules raster = new RasterRules();
                String what = "blot(363, " + p + ", " + q + ")";
                raster.blot(Check.at(11, 11), p, q);
                check.due(what + ", left end", raster.get(Check.at(11 - p, 11)), 1);
                check.due(what + ", right end", raster.get(Check.at(11 + p, 11)), 1);
                check.due(what + ", upper end", raster.get(Check.at(11, 11 - q)), 1);
                check.due(what + ", lower end", raster.get(Check.at(11, 11 + q)), 1);
                check.due(what + ", right of the right end", raster.get(Check.at(12 + p, 11)), 0);
                check.due(what + ", under the lower end", raster.get(Check.at(11, 12 + q)), 0);
                check.due(what + ", under the right end", raster.get(Check.at(11 + p, 12)), 0);
                check.due(what + ", beside the lower end", raster.get(Check.at(12, 11 + q)), 0);
            }
        }
        // 10^2 * 3^2 + 5^2 * 8^2 = 5^2 * 10^2, and so for (4, 6).
        RasterRules raster = new RasterRules();
        raster.blot(Check.at(11, 11), 5, 10);
        check.due("(3, 8) is on the border", raster.get(Check.at(14, 19)), 1);
        check.due("(4, 6) is on the border", raster.get(Check.at(15, 17)), 1);
        check.due("(-4, -6) is on the border", raster.get(Check.at(7, 5)), 1);
        check.due("(4, 7) is beyond it", raster.get(Check.at(15, 18)), 0);
        check.due("(8, 3) is beyond it", raster.get(Check.at(19, 14)), 0);
    }

    private static void column(Check check) {
        for (int q = 1; q <= 30; q++) {
            for (int pixel : Check.pixels()) {
                RasterRules raster = new RasterRules();
                int[] rows = new int[24];
                java.util.Arrays.fill(rows, 1 << pixel % 32);
                check.due("blot(" + pixel + ", 0, " + q + ")", raster.blot(pixel, 0, q), 24);
                check.rows("blot(" + pixel + ", 0, " + q + ")", raster, rows);
            }
        }
    }

    private static void row(Check check) {
        for (int p = 1; p <= 30; p++) {
            for (int pixel : Check.pixels()) {
                RasterRules raster = new RasterRules();
                int[] rows = new int[24];
                rows[pixel / 32] = Check.FULL_ROW;
                check.due("blot(" + pixel + ", " + p + ", 0)", raster.blot(pixel, p, 0), 24);
                check.rows("blot(" + pixel + ", " + p + ", 0)", raster, rows);
            }
        }
    }

    private static void all(Check check) {
        for (int pixel : Check.pixels()) {
            RasterRules raster = new RasterRules();
            check.due("blot(" + pixel + ", 0, 0)", raster.blot(pixel, 0, 0), 576);
            check.due("count()", raster.count(), 576);
            raster.pen(2);
            check.due("blot(" + pixel + ", 0, 0) turned over", raster.blot(pixel, 0, 0), 576);
            check.due("count()", raster.count(), 0);
        }
    }

    private static void greatest(Check check) {
        int[] corners = {0, 23, 736, 759};
        for (int corner : corners) {
            // Both 30: as the disc. One 30, the other 1: a row, and at the middle of it the next one.
            check.due("blot(" + corner + ", 30, 30)", new RasterRules().blot(corner, 30, 30), 566);
            check.due("blot(" + corner + ", 30, 1)", new RasterRules().blot(corner, 30, 1), 25);
            check.due("blot(" + corner + ", 1, 30)", new RasterRules().blot(corner, 1, 30), 25);
        }
        RasterRules raster = new RasterRules();
        raster.blot(0, 30, 1);
        check.due("row(0)", raster.row(0), Check.FULL_ROW);
        check.due("row(1)", raster.row(1), 1);
        check.due("blot(395, 30, 30)", new RasterRules().blot(395, 30, 30), 576);
    }

    private static void manyBlots(Check check) {
        int[] places = {0, 1, 11, 12, 22, 23};
        for (int y : places) {
            for (int x : places) {
                for (int p = 0; p <= 30; p++) {
                    for (int q = 0; q <= 30; q++) {
                        RasterRules raster = new RasterRules();
                        Model model = new Model();
                        String what = "blot(" + Check.at(x, y) + ", " + p + ", " + q + ")";
                        check.due(what, raster.blot(Check.at(x, y), p, q), model.blot(Check.at(x, y), p, q));
                        check.same(what, raster, model);
                    }
                }
            }
        }
    }

    private static void changed(Check check) {
        RasterRules raster = new RasterRules();
        check.due("all new", raster.blot(Check.at(2, 2), 2, 2), 13);
        check.due("none new", raster.blot(Check.at(2, 2), 2, 2), 0);
        check.due("some new", raster.blot(Check.at(2, 2), 0, 1), 24 - 5);
        raster.pen(2);
        check.due("turned over", raster.blot(0, 2, 1), 4);
        raster.pen(1);
        check.due("made 0", raster.blot(Check.at(2, 2), 0, 1), 24 - 1);
        check.due("made 0 again", raster.blot(Check.at(2, 2), 0, 1), 0);
        check.picture("made 0", raster, "##", "##.#", "##.##", ".#.#");
    }

    private static void badMiddle(Check check) {
        for (int bad : Check.noPixels()) {
            check.refused("blot(" + bad + ", 3, 3)", RasterRules.BAD, raster -> raster.blot(bad, 3, 3));
            check.refused("blot(" + bad + ", 0, 0)", RasterRules.BAD, raster -> raster.blot(bad, 0, 0));
        }
    }

    private static void badP(Check check) {
        for (int bad : Check.outside(0, 30)) {
            check.refused("blot(395, " + bad + ", 3)", RasterRules.BAD, raster -> raster.blot(395, bad, 3));
            check.refused("blot(395, " + bad + ", 0)", RasterRules.BAD, raster -> raster.blot(395, bad, 0));
        }
    }

    private static void badQ(Check check) {
        for (int bad : Check.outside(0, 30)) {
            check.refused("blot(395, 3, " + bad + ")", RasterRules.BAD, raster -> raster.blot(395, 3, bad));
            check.refused("blot(395, 0, " + bad + ")", RasterRules.BAD, raster -> raster.blot(395, 0, bad));
            check.refused("blot(395, " + bad + ", " + bad + ")", RasterRules.BAD, raster -> raster.blot(395, bad, bad));
        }
    }
}
