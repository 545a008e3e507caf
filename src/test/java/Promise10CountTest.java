/** Promise 10: count. */
public final class Promise10CountTest {
    public static void main(String[] args) {
        Check check = new Check("Promise10");
        check.sentence("The number of pixels that are 1: an empty raster", Promise10CountTest::empty);
        check.sentence("The number of pixels that are 1: a full raster", Promise10CountTest::full);
        check.sentence("The number of pixels that are 1.", Promise10CountTest::between);
        check.end();
    }

    private static void empty(Check check) {
        RasterRules raster = new RasterRules();
        check.due("new", raster.count(), 0);
        raster.line(0, 759);
        raster.pen(1);
        raster.line(0, 759);
        check.due("made 0 again", raster.count(), 0);
        raster.flood(0);
        raster.flood(0);
        check.due("turned over twice", raster.count(), 0);
    }

    private static void full(Check check) {
        check.due("by lines", Check.full().count(), 576);
        RasterRules blot = new RasterRules();
        blot.blot(0, 0, 0);
        check.due("by a blot", blot.count(), 576);
        RasterRules flood = new RasterRules();
        flood.flood(0);
        check.due("by a flood", flood.count(), 576);
        check.due("count changes nothing", flood.count(), 576);
    }

    private static void between(Check check) {
        for (int pixel : Check.pixels()) {
            RasterRules one = new RasterRules();
            one.disc(pixel, 0);
            check.due(pixel + " alone", one.count(), 1);
            RasterRules rest = Check.full();
            rest.pen(1);
            rest.disc(pixel, 0);
            check.due("all but " + pixel, rest.count(), 575);
        }
        RasterRules raster = new RasterRules();
        int sum = 0;
        for (int y = 0; y < 24; y++) {
            raster.line(Check.at(0, y), Check.at(y, y));
            sum += y + 1;
            check.due("up to row " + y, raster.count(), sum);
            check.due("count changes nothing", raster.count(), sum);
        }
    }
}
