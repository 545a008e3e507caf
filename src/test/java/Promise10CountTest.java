/** Promise 10: count. */
public final class Promise10CountTest {
    public static void main(String[] args) {
        Check check = new Check("Promise10");
        RasterRules raster = new RasterRules();
        check.due("none", raster.count(), 0);
        int sum = 0;
        for (int y = 0; y < 24; y++) {
            raster.line(Check.at(0, y), Check.at(y, y));
            sum += y + 1;
            check.due("up to row " + y, raster.count(), sum);
            check.due("count changes nothing", raster.count(), sum);
        }
        raster.blot(0, 0, 0);
        check.due("all", raster.count(), 576);
        raster.pen(1);
        raster.disc(Check.at(23, 23), 0);
        check.due("all but the last", raster.count(), 575);
        raster.disc(0, 0);
        check.due("all but the first and the last", raster.count(), 574);
        check.end();
    }
}
