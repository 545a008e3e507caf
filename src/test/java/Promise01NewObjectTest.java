/** Promise 1: a new object. */
public final class Promise01NewObjectTest {
    public static void main(String[] args) {
        Check check = new Check("Promise01");
        check.sentence("All pixels are 0", Promise01NewObjectTest::allZero);
        check.sentence("the pen is 0.", Promise01NewObjectTest::penZero);
        check.sentence("RasterRules(): of each object for itself", Promise01NewObjectTest::eachForItself);
        check.end();
    }

    private static void allZero(Check check) {
        for (int pixel : Check.pixels()) {
            check.due("get(" + pixel + ")", new RasterRules().get(pixel), 0);
        }
        check.due("count()", new RasterRules().count(), 0);
        check.rows("new", new RasterRules(), new int[24]);
    }

    private static void penZero(Check check) {
        RasterRules raster = new RasterRules();
        check.due("makes 0 to 1", raster.line(0, 3), 4);
        check.picture("makes 0 to 1", raster, "####");
        check.due("leaves 1 as it is", raster.line(0, 3), 0);
        check.picture("leaves 1 as it is", raster, "####");
        RasterRules refused = new RasterRules();
        refused.pen(3);
        check.due("with a refused pen, too", refused.disc(0, 0) + refused.disc(0, 0), 1);
    }

    private static void eachForItself(Check check) {
        RasterRules first = new RasterRules();
        first.disc(0, 0);
        first.pen(2);
        RasterRules second = new RasterRules();
        check.due("no pixels of another object", second.count(), 0);
        check.due("no pen of another object", second.disc(5, 0) + second.disc(5, 0), 1);
        check.due("the first has its pen still", first.disc(0, 0), 1);
        check.due("the first has its pixels still", first.count(), 0);
    }
}
