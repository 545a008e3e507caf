/** Promise 9: get. */
public final class Promise09GetTest {
    public static void main(String[] args) {
        Check check = new Check("Promise09");
        check.sentence("A pixel's value", Promise09GetTest::value);
        check.sentence("BAD if pixel is no pixel's number", Promise09GetTest::bad);
        check.end();
    }

    private static void value(Check check) {
        for (int pixel : Check.pixels()) {
            for (int y = 0; y < 24; y++) {
                onePixel(check, pixel, y);
            }
        }
        for (int pixel : Check.pixels()) {
            RasterRules raster = Check.mixed();
            int[] rows = Check.rowsOf(raster);
            check.due("get(" + pixel + ")", raster.get(pixel), rows[pixel / 32] >> pixel % 32 & 1);
            check.rows("get changes nothing", raster, rows);
        }
    }

    /** New objects for each row that is looked at: 576 looks are more calls than an object is used for. */
    private static void onePixel(Check check, int pixel, int y) {
        RasterRules one = new RasterRules();
        one.disc(pixel, 0);
        RasterRules zero = Check.full();
        zero.pen(1);
        zero.disc(pixel, 0);
        for (int x = 0; x < 24; x++) {
            int other = Check.at(x, y);
            check.due("get(" + other + ") with 1 at " + pixel, one.get(other), other == pixel ? 1 : 0);
            check.due("get(" + other + ") with 0 at " + pixel, zero.get(other), other == pixel ? 0 : 1);
        }
    }

    private static void bad(Check check) {
        for (int bad : Check.noPixels()) {
            check.due("get(" + bad + ") of an empty raster", new RasterRules().get(bad), RasterRules.BAD);
            check.due("get(" + bad + ") of a full raster", Check.full().get(bad), RasterRules.BAD);
            check.refused("get(" + bad + ")", RasterRules.BAD, raster -> raster.get(bad));
        }
    }
}
