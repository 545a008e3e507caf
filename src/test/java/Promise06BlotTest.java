/** Promise 6: blot. */
public final class Promise06BlotTest {
    public static void main(String[] args) {
        Check check = new Check("Promise06");
        pictures(check);
        zeroRadii(check);
        manyBlots(check);
        wrongNumbers(check);
        check.end();
    }

    private static void pictures(Check check) {
        RasterRules wide = new RasterRules();
        check.due("wide", wide.blot(Check.at(3, 1), 3, 1), 9);
        check.picture("wide", wide, "...#", "#######", "...#");
        RasterRules high = new RasterRules();
        check.due("high", high.blot(Check.at(1, 3), 1, 3), 9);
        check.picture("high", high, ".#", ".#", ".#", "###", ".#", ".#", ".#");
        RasterRules round = new RasterRules();
        check.due("round", round.blot(Check.at(2, 2), 2, 2), 13);
        check.picture("round", round, "..#", ".###", "#####", ".###", "..#");
        round.pen(2);
        check.due("cut off and turned over", round.blot(0, 2, 1), 4);
        check.picture("cut off and turned over", round, "##", "####", "#####", ".###", "..#");
        round.pen(1);
        check.due("made 0", round.blot(Check.at(2, 2), 2, 1), 7);
        check.picture("made 0", round, "##", "##.#", "", ".#.#", "..#");
    }

    /** By the formula a radius of 0 leaves the other direction without a bound. */
    private static void zeroRadii(Check check) {
        RasterRules raster = new RasterRules();
        check.due("a column", raster.blot(Check.at(4, 9), 0, 3), 24);
        check.due("a column's row", raster.row(0), 1 << 4);
        check.due("a column's row", raster.row(23), 1 << 4);
        check.due("a row", raster.blot(Check.at(4, 9), 3, 0), 23);
        check.due("a row's row", raster.row(9), (1 << 24) - 1);
        check.due("count()", raster.count(), 47);
        check.due("the whole raster", raster.blot(Check.at(23, 0), 0, 0), 576 - 47);
    }

    private static void manyBlots(Check check) {
        int[] places = {0, 1, 11, 12, 22, 23};
        for (int y : places) {
            for (int x : places) {
                for (int p = 0; p <= 30; p++) {
                    for (int q = 0; q <= 30; q++) {
                        RasterRules raster = new RasterRules();
                        Model model = new Model();
                        String what = "blot(" + Check.at(x, y) + ", " + p + ", " + q + ")";
                        check.due(what, raster.blot(Check.at(x, y), p, q), model.blot(Check.at(x, y), p, q));
                        check.same(what, raster, model);
                    }
                }
            }
        }
    }

    private static void wrongNumbers(Check check) {
        RasterRules raster = new RasterRules();
        raster.pen(2);
        for (int bad : Check.noPixels()) {
            check.due("blot(" + bad + ", 3, 3)", raster.blot(bad, 3, 3), RasterRules.BAD);
        }
        for (int bad : Check.noRadii()) {
            check.due("blot(0, " + bad + ", 3)", raster.blot(0, bad, 3), RasterRules.BAD);
            check.due("blot(0, 3, " + bad + ")", raster.blot(0, 3, bad), RasterRules.BAD);
            check.due("blot(0, " + bad + ", " + bad + ")", raster.blot(0, bad, bad), RasterRules.BAD);
        }
        check.picture("after refused blots", raster);
    }
}
