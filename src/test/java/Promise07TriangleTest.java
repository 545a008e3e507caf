/** Promise 7: triangle. */
public final class Promise07TriangleTest {
    private static final int[][] ORDERS = {{0, 1, 2}, {0, 2, 1}, {1, 0, 2}, {1, 2, 0}, {2, 0, 1}, {2, 1, 0}};

    public static void main(String[] args) {
        Check check = new Check("Promise07");
        pictures(check);
        smallTriangles(check);
        manyTriangles(check);
        pens(check);
        wrongNumbers(check);
        check.end();
    }

    private static void pictures(Check check) {
        draws(check, "right angle", 0, 0, 3, 0, 0, 3, "####", "###", "##", "#");
        draws(check, "blunt", 0, 0, 4, 0, 2, 2, "#####", ".###", "..#");
        draws(check, "slanted", 0, 0, 3, 1, 1, 3, "#", ".###", ".##", ".#");
        draws(check, "thin, with no point inside", 0, 0, 1, 0, 3, 1, "##", "...#");
        draws(check, "one point", 2, 1, 2, 1, 2, 1, "", "..#");
        draws(check, "two points", 0, 0, 0, 0, 4, 2, "#", "..#", "....#");
        draws(check, "on one line", 0, 0, 2, 1, 6, 3, "#", "..#", "....#", "......#");
        draws(check, "on one line without points between", 0, 0, 3, 1, 3, 1, "#", "...#");
        draws(check, "on one row", 1, 0, 3, 0, 5, 0, ".#####");
        draws(check, "on one column", 1, 0, 1, 3, 1, 2, ".#", ".#", ".#", ".#");
        draws(check, "on one diagonal", 3, 0, 2, 1, 0, 3, "...#", "..#", ".#", "#");
        check.due("half of the raster", new RasterRules().triangle(0, 23, Check.at(0, 23)), 300);
    }

    private static void draws(Check check, String what, int a, int b, int c, int d, int e, int f, String... picture) {
        int[] corners = {Check.at(a, b), Check.at(c, d), Check.at(e, f)};
        for (int[] order : ORDERS) {
            RasterRules raster = new RasterRules();
            int changed = raster.triangle(corners[order[0]], corners[order[1]], corners[order[2]]);
            check.due(what, changed, raster.count());
            check.picture(what, raster, picture);
        }
    }

    private static void smallTriangles(Check check) {
        for (int i = 0; i < 25; i++) {
            for (int j = 0; j < 25; j++) {
                for (int k = 0; k < 25; k++) {
                    compare(check, Check.at(i % 5, i / 5), Check.at(j % 5, j / 5), Check.at(k % 5, k / 5));
                }
            }
        }
    }

    private static void manyTriangles(Check check) {
        // A fixed walk through the raster's triples.
        int state = 1;
        int[] corner = new int[3];
        for (int i = 0; i < 60000; i++) {
            for (int j = 0; j < 3; j++) {
                state = state * 1103515245 + 12345;
                int place = (state >>> 8) % 576;
                corner[j] = Check.at(place % 24, place / 24);
            }
            compare(check, corner[0], corner[1], corner[2]);
        }
    }

    private static void compare(Check check, int first, int second, int third) {
        RasterRules raster = new RasterRules();
        Model model = new Model();
        String what = "triangle(" + first + ", " + second + ", " + third + ")";
        check.due(what, raster.triangle(first, second, third), model.triangle(first, second, third));
        check.same(what, raster, model);
    }

    private static void pens(Check check) {
        RasterRules raster = new RasterRules();
        raster.triangle(0, 3, Check.at(0, 3));
        raster.pen(2);
        check.due("turned over", raster.triangle(0, 2, Check.at(2, 2)), 6);
        check.picture("turned over", raster, "...#", "#", "###", "#");
        raster.pen(1);
        check.due("made 0", raster.triangle(32, 96, Check.at(2, 2)), 5);
        check.picture("made 0", raster, "...#");
    }

    private static void wrongNumbers(Check check) {
        RasterRules raster = new RasterRules();
        raster.pen(2);
        for (int bad : Check.noPixels()) {
            check.due("triangle(" + bad + ", 0, 9)", raster.triangle(bad, 0, 9), RasterRules.BAD);
            check.due("triangle(0, " + bad + ", 9)", raster.triangle(0, bad, 9), RasterRules.BAD);
            check.due("triangle(0, 9, " + bad + ")", raster.triangle(0, 9, bad), RasterRules.BAD);
        }
        check.picture("after refused triangles", raster);
    }
}
