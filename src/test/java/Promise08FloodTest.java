/** Promise 8: flood. */
public final class Promise08FloodTest {
    public static void main(String[] args) {
        Check check = new Check("Promise08");
        wholeRaster(check);
        pictures(check);
        penHasNoPart(check);
        longWays(check);
        wrongNumbers(check);
        check.end();
    }

    private static void wholeRaster(Check check) {
        RasterRules raster = new RasterRules();
        check.due("all 0", raster.flood(0), 576);
        check.due("count()", raster.count(), 576);
        check.due("all 1", raster.flood(759), 576);
        check.due("count()", raster.count(), 0);
        check.due("all 0 from the middle", raster.flood(Check.at(11, 13)), 576);
    }

    private static void pictures(Check check) {
        RasterRules raster = new RasterRules();
        raster.ring(Check.at(3, 3), 2);
        check.due("the inside of a ring", raster.flood(Check.at(3, 3)), 9);
        check.picture("the inside of a ring", raster, "", "..###", ".#####", ".#####", ".#####", "..###");
        check.due("the ring and its inside", raster.flood(Check.at(1, 2)), 21);
        check.picture("the ring and its inside", raster);

        RasterRules corners = new RasterRules();
        corners.line(Check.at(0, 0), Check.at(3, 3));
        check.due("a corner is no neighbour", corners.flood(Check.at(1, 1)), 1);
        check.picture("a corner is no neighbour", corners, "#", "", "..#", "...#");

        RasterRules edges = new RasterRules();
        edges.disc(Check.at(23, 4), 0);
        edges.disc(Check.at(0, 5), 0);
        check.due("a row's end is no neighbour of the next row", edges.flood(Check.at(23, 4)), 1);
        edges.line(Check.at(7, 0), Check.at(7, 23));
        check.due("left of a wall", edges.flood(0), 7 * 24 - 1);
        check.due("right of the wall", edges.flood(23), 16 * 24);
    }

    private static void penHasNoPart(Check check) {
        for (int pen = 0; pen <= 2; pen++) {
            RasterRules raster = new RasterRules();
            raster.line(0, 2);
            raster.pen(pen);
            check.due("1 becomes 0, pen " + pen, raster.flood(1), 3);
            check.due("count()", raster.count(), 0);
            check.due("0 becomes 1, pen " + pen, raster.flood(1), 576);
            check.due("count()", raster.count(), 576);
        }
    }

    /** A way that winds through the whole raster, and a field of single pixels. */
    private static void longWays(Check check) {
        RasterRules raster = new RasterRules();
        for (int y = 1; y < 24; y += 2) {
            int left = y % 4 == 1 ? 0 : 1;
            raster.line(Check.at(left, y), Check.at(left + 22, y));
        }
        check.due("a winding way", raster.flood(0), 576 - 12 * 23);
        check.due("count()", raster.count(), 576);

        RasterRules board = new RasterRules();
        board.pen(2);
        for (int i = 0; i < 24; i += 2) {
            board.line(Check.at(0, i), Check.at(23, i));
            board.line(Check.at(i, 0), Check.at(i, 23));
        }
        check.due("half of a board's fields", board.count(), 288);
        check.due("one field of a board", board.flood(Check.at(4, 4)), 1);
        check.due("the field, now of its neighbours' value, and those four", board.flood(Check.at(4, 4)), 5);
        check.due("these and the eight around them", board.flood(Check.at(5, 4)), 13);
        check.due("count()", board.count(), 288 + 1 - 5 + 13);
    }

    private static void wrongNumbers(Check check) {
        RasterRules raster = new RasterRules();
        raster.disc(0, 0);
        for (int bad : Check.noPixels()) {
            check.due("flood(" + bad + ")", raster.flood(bad), RasterRules.BAD);
        }
        check.picture("after refused floods", raster, "#");
    }
}
