import java.util.function.ToIntFunction;

/** 'Terms': the raster, its pixels' numbers, the figures and the pens. */
public final class TermsRasterTest {
    public static void main(String[] args) {
        Check check = new Check("TermsRaster");
        check.sentence("pixel (x, y), x and y from 0 to 23, has the number 32 * y + x", TermsRasterTest::numbers);
        check.sentence("x and y from 0 to 23: no pixel below the first, above the last, or between the rows", TermsRasterTest::noNumbers);
        check.sentence("each is 0 or 1", TermsRasterTest::zeroOrOne);
        check.sentence("A FIGURE is a set of pixels", TermsRasterTest::setOfPixels);
        check.sentence("(those of its points that lie on the raster)", TermsRasterTest::onTheRaster);
        check.sentence("it makes the pixels of a figure 1 (PEN 0)", it -> pen(it, 0));
        check.sentence("makes them 0 (PEN 1)", it -> pen(it, 1));
        check.sentence("or turns each over (PEN 2)", it -> pen(it, 2));
        check.end();
    }

    private static void numbers(Check check) {
        for (int y = 0; y < 24; y++) {
            for (int x = 0; x < 24; x++) {
                int number = 32 * y + x;
                int[] rows = new int[24];
                rows[y] = 1 << x;
                alone(check, "line(" + number + ", same)", rows, raster -> raster.line(number, number));
                alone(check, "disc(" + number + ", 0)", rows, raster -> raster.disc(number, 0));
                alone(check, "ring(" + number + ", 0)", rows, raster -> raster.ring(number, 0));
                alone(check, "triangle(" + number + ", same, same)", rows, raster -> raster.triangle(number, number, number));
                floodAlone(check, number, rows);
            }
        }
        check.due("the last pixel", 32 * 23 + 23, 759);
    }

    private static void alone(Check check, String call, int[] rows, ToIntFunction<RasterRules> draw) {
        RasterRules raster = new RasterRules();
        check.due(call, draw.applyAsInt(raster), 1);
        check.rows(call, raster, rows);
    }

    private static void floodAlone(Check check, int number, int[] rows) {
        RasterRules raster = new RasterRules();
        raster.disc(number, 0);
        check.due("get(" + number + ")", raster.get(number), 1);
        check.due("flood(" + number + ") of a single pixel", raster.flood(number), 1);
        check.rows("flood(" + number + ") of a single pixel", raster, new int[24]);
    }

    private static void noNumbers(Check check) {
        int pixels = 0;
        for (int number = -5000; number <= 5000; number++) {
            pixels += Check.full().get(number) == 1 ? 1 : 0;
        }
        check.due("numbers that are a pixel's", pixels, 576);
        for (int y = -2; y <= 25; y++) {
            RasterRules raster = Check.full();
            for (int x = 24; x <= 31; x++) {
                check.due("get(" + Check.at(x, y) + "), right of row " + y, raster.get(Check.at(x, y)), RasterRules.BAD);
            }
        }
        for (int x = 0; x <= 23; x++) {
            RasterRules raster = Check.full();
            check.due("get above the raster", raster.get(Check.at(x, -1)), RasterRules.BAD);
            check.due("get below the raster", raster.get(Check.at(x, 24)), RasterRules.BAD);
        }
        for (int bad : Check.noPixels()) {
            check.due("get(" + bad + ")", Check.full().get(bad), RasterRules.BAD);
        }
    }

    private static void zeroOrOne(Check check) {
        RasterRules raster = new RasterRules();
        check.due("made 1 twice", raster.disc(395, 0) + raster.disc(395, 0), 1);
        check.due("get(395)", raster.get(395), 1);
        raster.pen(1);
        check.due("made 0 twice", raster.disc(395, 0) + raster.disc(395, 0), 1);
        check.due("get(395)", raster.get(395), 0);
        raster.pen(2);
        check.due("turned over twice", raster.disc(395, 0) + raster.disc(395, 0), 2);
        check.due("get(395)", raster.get(395), 0);
        check.due("count()", raster.count(), 0);
    }

    /** A point that a figure has twice is there once: it is turned over once, and counted once. */
    private static void setOfPixels(Check check) {
        for (int pen = 0; pen <= 2; pen += 2) {
            RasterRules raster = new RasterRules();
            raster.pen(pen);
            check.due("ring with the radius 0", raster.ring(Check.at(4, 4), 0), 1);
            check.picture("ring with the radius 0", raster, "", "", "", "", "....#");
            raster.move(0, 24);
            check.due("ring with points on both axes", raster.ring(Check.at(1, 1), 1), 4);
            check.picture("ring with points on both axes", raster, ".#", "#.#", ".#");
            raster.move(0, 24);
            check.due("ring with points on the diagonals", raster.ring(Check.at(3, 3), 3), 16);
            check.picture("ring with points on the diagonals", raster,
                "..###", ".#...#", "#.....#", "#.....#", "#.....#", ".#...#", "..###");
            raster.move(0, 24);
            check.due("triangle with two corners the same", raster.triangle(0, 0, 3), 4);
            check.picture("triangle with two corners the same", raster, "####");
            raster.move(0, 24);
            check.due("line of one point", raster.line(5, 5), 1);
            check.picture("line of one point", raster, ".....#");
        }
    }

    /** What lies beyond a side is neither drawn nor counted, and comes in nowhere else. */
    private static void onTheRaster(Check check) {
        for (int pen = 0; pen <= 2; pen += 2) {
            RasterRules raster = new RasterRules();
            raster.pen(pen);
            check.due("disc over the left side", raster.disc(Check.at(0, 3), 1), 4);
            check.picture("disc over the left side", raster, "", "", "#", "##", "#");
            raster.move(0, 24);
            check.due("disc over the right side", raster.disc(Check.at(23, 1), 1), 4);
            check.picture("disc over the right side", raster,
                ".......................#", "......................##", ".......................#");
            raster.move(0, 24);
            check.due("disc over the upper side", raster.disc(Check.at(2, 0), 1), 4);
            check.picture("disc over the upper side", raster, ".###", "..#");
            raster.move(0, 24);
            check.due("disc over the lower side", raster.disc(Check.at(2, 23), 1), 4);
            check.due("row(22)", raster.row(22), 4);
            check.due("row(23)", raster.row(23), 14);
            check.due("count()", raster.count(), 4);
        }
        overTheCorners(check);
        whollyOff(check);
    }

    private static void overTheCorners(Check check) {
        int[] corners = {0, 23, 736, 759};
        for (int corner : corners) {
            check.due("disc(" + corner + ", 2)", new RasterRules().disc(corner, 2), 6);
            check.due("ring(" + corner + ", 2)", new RasterRules().ring(corner, 2), 4);
            check.due("blot(" + corner + ", 3, 1)", new RasterRules().blot(corner, 3, 1), 5);
            check.due("blot(" + corner + ", 1, 3)", new RasterRules().blot(corner, 1, 3), 5);
            check.due("ring(" + corner + ", 23)", new RasterRules().ring(corner, 23), model(corner, 23));
        }
        RasterRules raster = new RasterRules();
        raster.ring(0, 2);
        check.picture("ring(0, 2)", raster, "..#", "..#", "##");
        RasterRules blot = new RasterRules();
        blot.blot(759, 3, 1);
        check.due("row(22)", blot.row(22), 1 << 23);
        check.due("row(23)", blot.row(23), 15 << 20);
        check.due("count()", blot.count(), 5);
    }

    private static int model(int middle, int r) {
        return new Model().ring(middle, r);
    }

    private static void whollyOff(Check check) {
        for (int pen = 0; pen <= 2; pen++) {
            RasterRules raster = Check.mixed();
            int[] rows = Check.rowsOf(raster);
            raster.pen(pen);
            check.due("a ring around the raster", raster.ring(Check.at(11, 12), 30), 0);
            check.rows("a ring around the raster", raster, rows);
        }
    }

    private static void pen(Check check, int pen) {
        figure(check, pen, "line(0, 749)", raster -> raster.line(0, 749));
        figure(check, pen, "line(23, 713)", raster -> raster.line(23, 713));
        figure(check, pen, "disc(395, 7)", raster -> raster.disc(395, 7));
        figure(check, pen, "disc(0, 30)", raster -> raster.disc(0, 30));
        figure(check, pen, "ring(395, 9)", raster -> raster.ring(395, 9));
        figure(check, pen, "ring(759, 30)", raster -> raster.ring(759, 30));
        figure(check, pen, "blot(395, 9, 4)", raster -> raster.blot(395, 9, 4));
        figure(check, pen, "blot(395, 0, 4)", raster -> raster.blot(395, 0, 4));
        figure(check, pen, "blot(395, 4, 0)", raster -> raster.blot(395, 4, 0));
        figure(check, pen, "blot(395, 0, 0)", raster -> raster.blot(395, 0, 0));
        figure(check, pen, "triangle(3, 279, 740)", raster -> raster.triangle(3, 279, 740));
        figure(check, pen, "triangle(0, 330, 759)", raster -> raster.triangle(0, 330, 759));
    }

    /** On an empty, a full and a mixed raster; what is not of the figure stays. */
    private static void figure(Check check, int pen, String call, ToIntFunction<RasterRules> draw) {
        RasterRules alone = new RasterRules();
        draw.applyAsInt(alone);
        int[] figure = Check.rowsOf(alone);
        RasterRules[] grounds = {new RasterRules(), Check.full(), Check.mixed()};
        for (RasterRules raster : grounds) {
            int[] rows = Check.rowsOf(raster);
            int changed = 0;
            for (int y = 0; y < 24; y++) {
                int before = rows[y];
                rows[y] = pen == 0 ? before | figure[y] : pen == 1 ? before & ~figure[y] : before ^ figure[y];
                changed += Integer.bitCount(before ^ rows[y]);
            }
            check.due("pen(" + pen + ")", raster.pen(pen), true);
            check.due(call + " with pen " + pen, draw.applyAsInt(raster), changed);
            check.rows(call + " with pen " + pen, raster, rows);
        }
    }
}
