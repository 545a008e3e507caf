/** Promise 1: a new object has all pixels 0 and the pen 0. */
public final class Promise01NewObjectTest {
    public static void main(String[] args) {
        Check check = new Check("Promise01");
        RasterRules raster = new RasterRules();
        check.picture("new", raster);
        for (int y = 0; y < 24; y++) {
            for (int x = 0; x < 24; x++) {
                check.due("get(" + Check.at(x, y) + ")", raster.get(Check.at(x, y)), 0);
            }
        }
        check.due("draws with pen 0", raster.disc(0, 0), 1);
        check.due("draws with pen 0 again", raster.disc(0, 0), 0);
        check.due("pixel made 1", raster.get(0), 1);

        RasterRules other = new RasterRules();
        check.due("objects share no pixels", other.count(), 0);
        raster.pen(2);
        check.due("objects share no pen", other.disc(5, 0) + other.disc(5, 0), 1);
        check.due("the first is as it was", raster.count(), 1);
        check.end();
    }
}
