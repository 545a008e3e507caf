import java.math.BigInteger;

/** Promise 7: triangle, and the triangle of 'Terms'. */
public final class Promise07TriangleTest {
    private static final int[][] ORDERS = {{0, 1, 2}, {0, 2, 1}, {1, 0, 2}, {1, 2, 0}, {2, 0, 1}, {2, 1, 0}};

    public static void main(String[] args) {
        Check check = new Check("Promise07");
        check.sentence("all points that lie in it", Promise07TriangleTest::inIt);
        check.sentence("or on its border", Promise07TriangleTest::onBorder);
        check.sentence("if the three are on one straight line, those on the stretch that they span", Promise07TriangleTest::stretch);
        check.sentence("the stretch that they span: two of them the same pixel", Promise07TriangleTest::twoTheSame);
        check.sentence("the stretch that they span: all three the same pixel", Promise07TriangleTest::allTheSame);
        check.sentence("Draws a triangle of three pixels", Promise07TriangleTest::manyTriangles);
        check.sentence("answers how many pixels changed", Promise07TriangleTest::changed);
        check.sentence("BAD if a number is no pixel's: first", Promise07TriangleTest::badFirst);
        check.sentence("BAD if a number is no pixel's: second", Promise07TriangleTest::badSecond);
        check.sentence("BAD if a number is no pixel's: third", Promise07TriangleTest::badThird);
        check.end();
    }

    private static void inIt(Check check) {
        draws(check, "right angle", 0, 0, 3, 0, 0, 3, "####", "###", "##", "#");
        draws(check, "blunt", 0, 0, 4, 0, 2, 2, "#####", ".###", "..#");
        draws(check, "slanted", 0, 0, 3, 1, 1, 3, "#", ".###", ".##", ".#");
        draws(check, "one point inside, none between the corners", 0, 0, 2, 1, 1, 2, "#", ".##", ".#");
        check.due("half of the raster", new RasterRules().triangle(0, 23, 736), 300);
        check.due("the other half", new RasterRules().triangle(759, 23, 736), 300);
    }

    /** All points of a border, and none beyond it. */
    private static void onBorder(Check check) {
        draws(check, "sides with points between", 0, 0, 4, 2, 0, 4, "#", "###", "#####", "###", "#");
        draws(check, "no point but the corners", 0, 0, 1, 0, 3, 1, "##", "...#");
        draws(check, "no point but the corners, steep", 0, 0, 0, 1, 1, 3, "#", "#", "", ".#");
        draws(check, "least", 0, 0, 1, 0, 0, 1, "##", "#");
        int half = new RasterRules().triangle(0, 22, Check.at(0, 22));
        check.due("without the outermost points", half, 276);
        RasterRules raster = new RasterRules();
        raster.triangle(Check.at(0, 0), Check.at(22, 11), Check.at(0, 23));
        for (int i = 0; i <= 11; i++) {
            check.due("(" + 2 * i + ", " + i + ") on the border", raster.get(Check.at(2 * i, i)), 1);
            check.due("right of it", raster.get(Check.at(2 * i + 1, i)), 0);
        }
        for (int y = 0; y <= 23; y++) {
            check.due("(0, " + y + ") on the border", raster.get(Check.at(0, y)), 1);
        }
    }

    private static void stretch(Check check) {
        draws(check, "on one row", 1, 0, 3, 0, 5, 0, ".#####");
        draws(check, "on one column", 1, 0, 1, 3, 1, 2, ".#", ".#", ".#", ".#");
        draws(check, "on one diagonal", 3, 0, 2, 1, 0, 3, "...#", "..#", ".#", "#");
        draws(check, "on one other diagonal", 0, 0, 1, 1, 3, 3, "#", ".#", "..#", "...#");
        draws(check, "on one flat line", 0, 0, 2, 1, 6, 3, "#", "..#", "....#", "......#");
        draws(check, "on one steep line", 3, 0, 2, 2, 0, 6, "...#", "", "..#", "", ".#", "", "#");
        draws(check, "from side to side", 0, 0, 11, 11, 23, 23, diagonal());
        for (int from : Check.pixels()) {
            for (int to : Check.pixels()) {
                int steps = steps(from, to);
                int between = from + (steps == 0 ? 0 : (to - from) / steps * (steps / 2));
                points(check, from, between, to);
            }
        }
    }

    private static String[] diagonal() {
        String[] picture = new String[24];
        for (int y = 0; y < 24; y++) {
            picture[y] = ".".repeat(y) + "#";
        }
        return picture;
    }

    private static void twoTheSame(Check check) {
        draws(check, "two points", 0, 0, 0, 0, 4, 2, "#", "..#", "....#");
        draws(check, "two points, none between", 0, 0, 3, 1, 3, 1, "#", "...#");
        draws(check, "two neighbours", 1, 1, 1, 1, 2, 1, "", ".##");
        draws(check, "two over a corner", 1, 1, 1, 1, 2, 0, "..#", ".#");
        draws(check, "two of one row", 0, 0, 4, 0, 4, 0, "#####");
        draws(check, "two of one column", 0, 0, 0, 0, 0, 2, "#", "#", "#");
        for (int from : Check.pixels()) {
            for (int to : Check.pixels()) {
                points(check, from, from, to);
            }
        }
    }

    /** The points on a stretch are so many, and lie its least whole step apart. */
    private static void points(Check check, int first, int second, int third) {
        RasterRules raster = new RasterRules();
        String what = "triangle(" + first + ", " + second + ", " + third + ")";
        int steps = steps(first, third);
        int[] rows = new int[24];
        for (int i = 0; i <= steps; i++) {
            int point = first + (steps == 0 ? 0 : (third - first) / steps * i);
            rows[point / 32] |= 1 << point % 32;
        }
        check.due(what, raster.triangle(first, second, third), steps + 1);
        check.rows(what, raster, rows);
    }

    private static void allTheSame(Check check) {
        draws(check, "one point", 2, 1, 2, 1, 2, 1, "", "..#");
        for (int pixel : Check.pixels()) {
            points(check, pixel, pixel, pixel);
        }
    }

    private static void draws(Check check, String what, int a, int b, int c, int d, int e, int f, String... picture) {
        int[] corners = {Check.at(a, b), Check.at(c, d), Check.at(e, f)};
        for (int[] order : ORDERS) {
            RasterRules raster = new RasterRules();
            int changed = raster.triangle(corners[order[0]], corners[order[1]], corners[order[2]]);
            check.due(what, changed, raster.count());
            check.picture(what, raster, picture);
        }
    }

    private static void manyTriangles(Check check) {
        for (int i = 0; i < 25; i++) {
            for (int j = 0; j < 25; j++) {
                for (int k = 0; k < 25; k++) {
                    compare(check, Check.at(i % 5, i / 5), Check.at(j % 5, j / 5), Check.at(k % 5, k / 5));
                }
            }
        }
        // A fixed walk through the raster's triples.
        int state = 1;
        int[] corner = new int[3];
        for (int i = 0; i < 60000; i++) {
            for (int j = 0; j < 3; j++) {
                state = state * 1103515245 + 12345;
                corner[j] = Check.pixels()[(state >>> 8) % 576];
            }
            compare(check, corner[0], corner[1], corner[2]);
        }
    }

    private static void compare(Check check, int first, int second, int third) {
        RasterRules raster = new RasterRules();
        Model model = new Model();
        String what = "triangle(" + first + ", " + second + ", " + third + ")";
        check.due(what, raster.triangle(first, second, third), model.triangle(first, second, third));
        check.same(what, raster, model);
        check.due(what + " by Pick's rule", raster.count(), pick(first, second, third));
    }

    /** How many points a triangle has: its area, half of its border's steps, and 1; for a stretch, too. */
    private static int pick(int first, int second, int third) {
        int a = second % 32 - first % 32, b = second / 32 - first / 32, c = third % 32 - first % 32, d = third / 32 - first / 32;
        return (Math.abs(a * d - b * c) + steps(first, second) + steps(second, third) + steps(third, first)) / 2 + 1;
    }

    private static int steps(int from, int to) {
        return BigInteger.valueOf(from % 32 - to % 32).gcd(BigInteger.valueOf(from / 32 - to / 32)).intValue();
    }

    private static void changed(Check check) {
        RasterRules raster = new RasterRules();
        check.due("all new", raster.triangle(0, 3, Check.at(0, 3)), 10);
        check.due("none new", raster.triangle(0, 3, Check.at(0, 3)), 0);
        raster.pen(2);
        check.due("turned over", raster.triangle(0, 2, Check.at(2, 2)), 6);
        check.picture("turned over", raster, "...#", "#", "###", "#");
        raster.pen(1);
        check.due("made 0", raster.triangle(32, 96, Check.at(2, 2)), 5);
        check.picture("made 0", raster, "...#");
        raster.pen(0);
        check.due("some new", raster.triangle(1, 2, 3), 2);
    }

    private static void badFirst(Check check) {
        for (int bad : Check.noPixels()) {
            check.refused("triangle(" + bad + ", 0, 745)", RasterRules.BAD, raster -> raster.triangle(bad, 0, 745));
            check.refused("triangle(" + bad + ", same, same)", RasterRules.BAD, raster -> raster.triangle(bad, bad, bad));
        }
    }

    private static void badSecond(Check check) {
        for (int bad : Check.noPixels()) {
            check.refused("triangle(0, " + bad + ", 745)", RasterRules.BAD, raster -> raster.triangle(0, bad, 745));
        }
    }

    private static void badThird(Check check) {
        for (int bad : Check.noPixels()) {
            check.refused("triangle(0, 745, " + bad + ")", RasterRules.BAD, raster -> raster.triangle(0, 745, bad));
        }
    }
}
