/** Promise 11: row. */
public final class Promise11RowTest {
    public static void main(String[] args) {
        Check check = new Check("Promise11");
        check.sentence("Row y as a number whose bit x is pixel (x, y)", Promise11RowTest::bits);
        check.sentence("bit 0 and bit 23 of row 0 and of row 23", Promise11RowTest::outermost);
        check.sentence("BAD for y outside 0..23", Promise11RowTest::bad);
        check.end();
    }

    private static void bits(Check check) {
        for (int y = 0; y < 24; y++) {
            for (int x = 0; x < 24; x++) {
                RasterRules one = new RasterRules();
                one.disc(Check.at(x, y), 0);
                RasterRules zero = Check.full();
                zero.pen(1);
                zero.disc(Check.at(x, y), 0);
                for (int other = 0; other < 24; other++) {
                    int bit = other == y ? 1 << x : 0;
                    check.due("row(" + other + ")", one.row(other), bit);
                    check.due("row(" + other + ")", zero.row(other), 16777215 - bit);
                }
            }
        }
    }

    private static void outermost(Check check) {
        RasterRules raster = new RasterRules();
        check.due("row(0), empty", raster.row(0), 0);
        check.due("row(23), empty", raster.row(23), 0);
        raster.disc(0, 0);
        check.due("row(0), bit 0", raster.row(0), 1);
        raster.disc(23, 0);
        check.due("row(0), bits 0 and 23", raster.row(0), 8388609);
        raster.disc(736, 0);
        check.due("row(23), bit 0", raster.row(23), 1);
        raster.disc(759, 0);
        check.due("row(23), bits 0 and 23", raster.row(23), 8388609);
        raster.pen(1);
        raster.disc(0, 0);
        check.due("row(0), bit 23", raster.row(0), 8388608);
        raster.disc(736, 0);
        check.due("row(23), bit 23", raster.row(23), 8388608);
        check.due("row(0), full", Check.full().row(0), 16777215);
        check.due("row(23), full", Check.full().row(23), 16777215);
    }

    private static void bad(Check check) {
        for (int bad : Check.outside(0, 23)) {
            check.due("row(" + bad + ") of an empty raster", new RasterRules().row(bad), RasterRules.BAD);
            check.due("row(" + bad + ") of a full raster", Check.full().row(bad), RasterRules.BAD);
            check.refused("row(" + bad + ")", RasterRules.BAD, raster -> raster.row(bad));
        }
    }
}
