/** Promise 9: get. */
public final class Promise09GetTest {
    public static void main(String[] args) {
        Check check = new Check("Promise09");
        for (int y = 0; y < 24; y++) {
            for (int x = 0; x < 24; x++) {
                onePixel(check, Check.at(x, y));
            }
        }
        RasterRules raster = new RasterRules();
        raster.blot(0, 0, 0);
        for (int number = -2000; number < 3000; number++) {
            boolean pixel = number >= 0 && number % 32 < 24 && number / 32 < 24;
            check.due("get(" + number + ")", raster.get(number), pixel ? 1 : RasterRules.BAD);
        }
        for (int bad : Check.noPixels()) {
            check.due("get(" + bad + ")", raster.get(bad), RasterRules.BAD);
        }
        check.due("get changes nothing", raster.count(), 576);
        check.end();
    }

    private static void onePixel(Check check, int pixel) {
        RasterRules raster = new RasterRules();
        raster.disc(pixel, 0);
        for (int other = 0; other < 760; other++) {
            if (other % 32 < 24) {
                check.due("get(" + other + ") with " + pixel, raster.get(other), other == pixel ? 1 : 0);
            }
        }
    }
}
