/** Promise 8: flood. */
public final class Promise08FloodTest {
    public static void main(String[] args) {
        Check check = new Check("Promise08");
        check.sentence("Turns over a pixel and all pixels of the same value: an empty raster", Promise08FloodTest::empty);
        check.sentence("Turns over a pixel and all pixels of the same value: a full raster", Promise08FloodTest::full);
        check.sentence("a pixel: a region of one pixel", Promise08FloodTest::onePixel);
        check.sentence("that can be come to from it: a region at an edge, over which no step leads", Promise08FloodTest::atAnEdge);
        check.sentence("by steps to neighbours of the same value", Promise08FloodTest::longWays);
        check.sentence("(left, right, up, down)", Promise08FloodTest::fourSteps);
        check.sentence("Turns over: whichever the pen is", Promise08FloodTest::penHasNoPart);
        check.sentence("answers how many", Promise08FloodTest::howMany);
        check.sentence("BAD if pixel is no pixel's number", Promise08FloodTest::bad);
        check.end();
    }

    private static void empty(Check check) {
        for (int pixel : Check.pixels()) {
            RasterRules raster = new RasterRules();
            check.due("flood(" + pixel + ")", raster.flood(pixel), 576);
            check.rows("flood(" + pixel + ")", raster, Check.rowsOf(Check.full()));
        }
    }

    private static void full(Check check) {
        for (int pixel : Check.pixels()) {
            RasterRules raster = Check.full();
            check.due("flood(" + pixel + ")", raster.flood(pixel), 576);
            check.rows("flood(" + pixel + ")", raster, new int[24]);
        }
    }

    private static void onePixel(Check check) {
        for (int pixel : Check.pixels()) {
            RasterRules one = new RasterRules();
            one.disc(pixel, 0);
            check.due("a 1 alone, " + pixel, one.flood(pixel), 1);
            check.rows("a 1 alone, " + pixel, one, new int[24]);
            RasterRules zero = Check.full();
            zero.pen(2);
            zero.disc(pixel, 0);
            check.due("a 0 alone, " + pixel, zero.flood(pixel), 1);
            check.rows("a 0 alone, " + pixel, zero, Check.rowsOf(Check.full()));
        }
    }

    private static void atAnEdge(Check check) {
        for (int i = 0; i < 24; i++) {
            RasterRules columns = new RasterRules();
            columns.line(Check.at(0, 0), Check.at(0, 23));
            columns.line(Check.at(23, 0), Check.at(23, 23));
            check.due("the left column", columns.flood(Check.at(0, i)), 24);
            check.due("the right column is as it was", columns.row(i), 1 << 23);
            check.due("the right column", columns.flood(Check.at(23, i)), 24);
            check.due("count()", columns.count(), 0);
            RasterRules rows = new RasterRules();
            rows.line(Check.at(0, 0), Check.at(23, 0));
            rows.line(Check.at(0, 23), Check.at(23, 23));
            check.due("the first row", rows.flood(Check.at(i, 0)), 24);
            check.due("the last row is as it was", rows.row(23), Check.FULL_ROW);
            check.due("the last row", rows.flood(Check.at(i, 23)), 24);
            check.due("count()", rows.count(), 0);
        }
        for (int y = 0; y < 23; y++) {
            RasterRules raster = new RasterRules();
            raster.disc(Check.at(23, y), 0);
            raster.disc(Check.at(0, y + 1), 0);
            check.due("the end of row " + y, raster.flood(Check.at(23, y)), 1);
            check.due("the start of the next row is as it was", raster.row(y + 1), 1);
            raster.disc(Check.at(23, y), 0);
            check.due("the start of row " + (y + 1), raster.flood(Check.at(0, y + 1)), 1);
            check.due("the end of the row before is as it was", raster.row(y), 1 << 23);
        }
        walls(check);
    }

    private static void walls(Check check) {
        RasterRules raster = new RasterRules();
        raster.line(Check.at(7, 0), Check.at(7, 23));
        check.due("left of a wall", raster.flood(0), 7 * 24);
        check.due("right of the wall", raster.flood(23), 16 * 24);
        check.due("count()", raster.count(), 576);
        RasterRules flat = new RasterRules();
        flat.line(Check.at(0, 5), Check.at(23, 5));
        check.due("above a wall", flat.flood(0), 5 * 24);
        check.due("under the wall", flat.flood(759), 18 * 24);
        check.due("count()", flat.count(), 576);
    }

    /** Ways that wind through the whole raster, from both ends of each. */
    private static void longWays(Check check) {
        int[] ends = {Check.at(0, 0), Check.at(23, 22), Check.at(0, 12), Check.at(11, 8)};
        for (int end : ends) {
            RasterRules raster = new RasterRules();
            for (int y = 1; y < 23; y += 2) {
                int left = y % 4 == 1 ? 0 : 1;
                raster.line(Check.at(left, y), Check.at(left + 22, y));
            }
            raster.line(Check.at(0, 23), Check.at(23, 23));
            check.due("a winding way", raster.flood(end), 12 * 24 + 11);
            check.due("count()", raster.count(), 576);
        }
        RasterRules ring = new RasterRules();
        ring.ring(Check.at(3, 3), 2);
        check.due("the inside of a ring", ring.flood(Check.at(3, 3)), 9);
        check.picture("the inside of a ring", ring, "", "..###", ".#####", ".#####", ".#####", "..###");
        check.due("the ring and its inside", ring.flood(Check.at(1, 2)), 21);
        check.picture("the ring and its inside", ring);
        for (int pixel : Check.pixels()) {
            RasterRules raster = new RasterRules();
            Model model = new Model();
            for (int i = 0; i < 12; i++) {
                int from = Check.at(i * 7 % 24, i * 5 % 24);
                int to = Check.at(i * 11 % 24, 23 - i * 13 % 24);
                raster.line(from, to);
                model.line(from, to);
            }
            check.due("flood(" + pixel + ") among lines", raster.flood(pixel), model.flood(pixel));
            check.same("flood(" + pixel + ") among lines", raster, model);
        }
    }

    private static void fourSteps(Check check) {
        int middle = Check.at(4, 4);
        int[] steps = {-1, 1, -32, 32};
        for (int step : steps) {
            RasterRules raster = new RasterRules();
            raster.line(middle, middle + 3 * step);
            check.due("steps of " + step + " alone", raster.flood(middle), 4);
            check.due("count()", raster.count(), 0);
        }
        int[] corners = {-33, -31, 31, 33};
        for (int corner : corners) {
            RasterRules raster = new RasterRules();
            raster.line(middle, middle + 2 * corner);
            check.due("no step of " + corner, raster.flood(middle), 1);
            check.due("count()", raster.count(), 2);
            check.due("get(middle + " + corner + ")", raster.get(middle + corner), 1);
        }
        for (int far = 2; far <= 3; far++) {
            for (int step : steps) {
                RasterRules raster = new RasterRules();
                raster.disc(middle, 0);
                raster.disc(middle + far * step, 0);
                check.due("no step over a pixel", raster.flood(middle), 1);
                check.due("get", raster.get(middle + far * step), 1);
            }
        }
        RasterRules cross = new RasterRules();
        cross.disc(middle, 1);
        check.due("all four", cross.flood(middle), 5);
        check.due("count()", cross.count(), 0);
        board(check);
    }

    private static void board(Check check) {
        RasterRules board = new RasterRules();
        board.pen(2);
        for (int i = 0; i < 24; i += 2) {
            board.line(Check.at(0, i), Check.at(23, i));
            board.line(Check.at(i, 0), Check.at(i, 23));
        }
        check.due("half of a board's fields", board.count(), 288);
        check.due("one field of a board", board.flood(Check.at(4, 4)), 1);
        check.due("the field, now of its neighbours' value, and those four", board.flood(Check.at(4, 4)), 5);
        check.due("these and the eight around them", board.flood(Check.at(5, 4)), 13);
        check.due("count()", board.count(), 288 + 1 - 5 + 13);
    }

    private static void penHasNoPart(Check check) {
        for (int pen = 0; pen <= 2; pen++) {
            RasterRules raster = new RasterRules();
            raster.line(0, 2);
            raster.pen(pen);
            check.due("1 becomes 0, pen " + pen, raster.flood(1), 3);
            check.due("count()", raster.count(), 0);
            check.due("0 becomes 1, pen " + pen, raster.flood(1), 576);
            check.due("count()", raster.count(), 576);
            check.due("the pen stays", raster.disc(0, 0), pen == 0 ? 0 : 1);
        }
    }

    private static void howMany(Check check) {
        for (int size = 1; size <= 24; size++) {
            RasterRules raster = new RasterRules();
            raster.line(0, size - 1);
            check.due("of " + size + " that are 1", raster.flood(0), size);
            raster.line(0, size - 1);
            check.due("of the others", raster.flood(759), 576 - size);
        }
    }

    private static void bad(Check check) {
        for (int bad : Check.noPixels()) {
            check.refused("flood(" + bad + ")", RasterRules.BAD, raster -> raster.flood(bad));
        }
    }
}
