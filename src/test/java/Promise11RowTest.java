/** Promise 11: row. */
public final class Promise11RowTest {
    public static void main(String[] args) {
        Check check = new Check("Promise11");
        for (int y = 0; y < 24; y++) {
            for (int x = 0; x < 24; x++) {
                RasterRules raster = new RasterRules();
                raster.disc(Check.at(x, y), 0);
                for (int other = 0; other < 24; other++) {
                    check.due("row(" + other + ")", raster.row(other), other == y ? 1 << x : 0);
                }
            }
        }
        RasterRules raster = new RasterRules();
        raster.blot(0, 0, 0);
        check.due("row(0)", raster.row(0), 16777215);
        check.due("row(23)", raster.row(23), 16777215);
        for (int bad : new int[] {-1, -2, -24, -32, 24, 25, 32, 56, 256, 1 << 24, Integer.MAX_VALUE, Integer.MIN_VALUE}) {
            check.due("row(" + bad + ")", raster.row(bad), RasterRules.BAD);
        }
        check.due("row changes nothing", raster.count(), 576);
        check.end();
    }
}
