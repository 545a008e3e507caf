/** Promise 3: line, and the line of 'Terms'. */
public final class Promise03LineTest {
    public static void main(String[] args) {
        Check check = new Check("Promise03");
        check.sentence("if the difference of a and c is at least that of b and d (both without sign), it has for each whole x "
            + "from the smaller to the greater one of a and c the point (x, y)", Promise03LineTest::flat);
        check.sentence("else the same with x and y exchanged in everything", Promise03LineTest::exchanged);
        check.sentence("y the whole number nearest to the y of the exact straight line at x", Promise03LineTest::nearest);
        check.sentence("of two equally near ones the smaller one", Promise03LineTest::smallerOfTwo);
        check.sentence("If a = c and b = d it has that point alone.", Promise03LineTest::pointAlone);
        check.sentence("Draws a line between two pixels, given by their numbers", Promise03LineTest::everyLine);
        check.sentence("answers how many pixels changed", Promise03LineTest::changed);
        check.sentence("BAD if a number is no pixel's: from", Promise03LineTest::badFrom);
        check.sentence("BAD if a number is no pixel's: to", Promise03LineTest::badTo);
        check.end();
    }

    private static void flat(Check check) {
        both(check, "flat", 0, 1, 3, 1, "", "####");
        both(check, "thirds, falling", 0, 0, 3, 1, "##", "..##");
        both(check, "thirds, rising", 0, 1, 3, 0, "..##", "##");
        both(check, "one more across than down", 0, 0, 3, 2, "#", ".##", "...#");
        both(check, "equal differences, falling", 0, 0, 2, 2, "#", ".#", "..#");
        both(check, "equal differences, rising", 0, 2, 2, 0, "..#", ".#", "#");
        RasterRules whole = new RasterRules();
        check.due("from side to side", whole.line(Check.at(23, 23), Check.at(0, 23)), 24);
        check.due("row(23)", whole.row(23), Check.FULL_ROW);
    }

    private static void exchanged(Check check) {
        both(check, "upright", 1, 0, 1, 3, ".#", ".#", ".#", ".#");
        both(check, "thirds, to the right", 0, 0, 1, 3, "#", "#", ".#", ".#");
        both(check, "thirds, to the left", 1, 0, 0, 3, ".#", ".#", "#", "#");
        both(check, "one more down than across", 0, 0, 2, 3, "#", ".#", ".#", "..#");
        both(check, "tie of x, to the right", 0, 0, 1, 2, "#", "#", ".#");
        both(check, "tie of x, to the left", 1, 0, 0, 2, ".#", "#", "#");
        both(check, "two ties of x", 0, 0, 2, 4, "#", "#", ".#", ".#", "..#");
        both(check, "two ties of x, to the left", 2, 0, 0, 4, "..#", ".#", ".#", "#", "#");
        for (int from : Check.pixels()) {
            for (int to : Check.pixels()) {
                if (isFlat(from, to)) {
                    continue;
                }
                int[] line = drawn(from, to);
                int[] mirror = drawn(exchanged(from), exchanged(to));
                check.due("line(" + from + ", " + to + ") exchanged", same(line, turned(mirror)), true);
            }
        }
    }

    /** Every line there is: one point for each x (or y), none farther than 1/2 from the exact line. */
    private static void nearest(Check check) {
        both(check, "fifths", 0, 0, 5, 1, "###", "...###");
        both(check, "fifths of two", 0, 0, 5, 2, "##", "..##", "....##");
        for (int from : Check.pixels()) {
            for (int to : Check.pixels()) {
                int[] line = drawn(from, to);
                check.due("line(" + from + ", " + to + ")", worst(line, from, to, false) <= length(from, to), true);
            }
        }
    }

    private static void smallerOfTwo(Check check) {
        both(check, "tie of y, falling", 0, 0, 2, 1, "##", "..#");
        both(check, "tie of y, rising", 0, 1, 2, 0, ".##", "#");
        both(check, "two ties of y", 0, 0, 4, 2, "##", "..##", "....#");
        both(check, "two ties of y, rising", 0, 2, 4, 0, "...##", ".##", "#");
        both(check, "a tie farther on", 0, 0, 6, 3, "##", "..##", "....##", "......#");
        both(check, "tie of sixths", 0, 0, 6, 1, "####", "....###");
        both(check, "tie of sixths, rising", 0, 1, 6, 0, "...####", "###");
        int ties = 0;
        for (int from : Check.pixels()) {
            for (int to : Check.pixels()) {
                int[] line = drawn(from, to);
                int upper = worst(line, from, to, true);
                check.due("line(" + from + ", " + to + ")", upper < Math.max(1, length(from, to)), true);
                ties += worst(line, from, to, false) == length(from, to) && from != to ? 1 : 0;
            }
        }
        check.due("there are lines with ties", ties > 10000, true);
    }

    private static void pointAlone(Check check) {
        for (int pixel : Check.pixels()) {
            RasterRules raster = new RasterRules();
            int[] rows = new int[24];
            rows[pixel / 32] = 1 << pixel % 32;
            check.due("line(" + pixel + ", " + pixel + ")", raster.line(pixel, pixel), 1);
            check.rows("line(" + pixel + ", " + pixel + ")", raster, rows);
        }
    }

    private static void everyLine(Check check) {
        for (int from : Check.pixels()) {
            for (int to : Check.pixels()) {
                RasterRules raster = new RasterRules();
                Model model = new Model();
                // All from the sides, and from each fifth number within.
                if (from % 5 == 0 || from % 32 == 0 || from % 32 == 23) {
                    String what = "line(" + from + ", " + to + ")";
                    check.due(what, raster.line(from, to), model.line(from, to));
                    check.same(what, raster, model);
                }
            }
        }
    }

    private static void changed(Check check) {
        RasterRules raster = new RasterRules();
        check.due("all new", raster.line(0, 9), 10);
        check.due("none new", raster.line(9, 0), 0);
        check.due("some new", raster.line(5, 14), 5);
        raster.pen(2);
        check.due("turned over", raster.line(Check.at(0, 0), Check.at(0, 23)), 24);
        check.due("count()", raster.count(), 15 - 1 + 23);
        raster.pen(1);
        check.due("made 0", raster.line(Check.at(0, 0), Check.at(23, 0)), 14);
        check.due("made 0 again", raster.line(Check.at(0, 0), Check.at(23, 0)), 0);
        check.due("count()", raster.count(), 23);
    }

    private static void badFrom(Check check) {
        for (int bad : Check.noPixels()) {
            check.refused("line(" + bad + ", 0)", RasterRules.BAD, raster -> raster.line(bad, 0));
            check.refused("line(" + bad + ", " + bad + ")", RasterRules.BAD, raster -> raster.line(bad, bad));
        }
    }

    private static void badTo(Check check) {
        for (int bad : Check.noPixels()) {
            check.refused("line(759, " + bad + ")", RasterRules.BAD, raster -> raster.line(759, bad));
        }
    }

    /** The line from one point to the other, and that from the other to the one. */
    private static void both(Check check, String what, int a, int b, int c, int d, String... picture) {
        int from = Check.at(a, b);
        int to = Check.at(c, d);
        RasterRules there = new RasterRules();
        check.due(what, there.line(from, to), length(from, to) + 1);
        check.picture(what, there, picture);
        RasterRules back = new RasterRules();
        check.due(what + " backwards", back.line(to, from), length(from, to) + 1);
        check.picture(what + " backwards", back, picture);
    }

    private static int[] drawn(int from, int to) {
        RasterRules raster = new RasterRules();
        raster.line(from, to);
        return Check.rowsOf(raster);
    }

    private static boolean isFlat(int from, int to) {
        return Math.abs(from % 32 - to % 32) >= Math.abs(from / 32 - to / 32);
    }

    private static int length(int from, int to) {
        return Math.max(Math.abs(from % 32 - to % 32), Math.abs(from / 32 - to / 32));
    }

    private static int exchanged(int pixel) {
        return Check.at(pixel / 32, pixel % 32);
    }

    private static int[] turned(int[] rows) {
        int[] columns = new int[24];
        for (int y = 0; y < 24; y++) {
            for (int x = 0; x < 24; x++) {
                columns[x] |= (rows[y] >> x & 1) << y;
            }
        }
        return columns;
    }

    private static boolean same(int[] one, int[] other) {
        return java.util.Arrays.equals(one, other);
    }

    /**
     * The greatest distance of a point from the exact line, times twice the line's length (so 1/2 is the length itself);
     * if upwards, only of those whose y (or x) is greater than the exact one. Very great if there is not one point for
     * each x (or y).
     */
    private static int worst(int[] line, int from, int to, boolean upwards) {
        boolean flat = isFlat(from, to);
        int[] columns = flat ? turned(line) : line;
        int a = flat ? from % 32 : from / 32;
        int b = flat ? from / 32 : from % 32;
        int c = flat ? to % 32 : to / 32;
        int d = flat ? to / 32 : to % 32;
        int length = Math.abs(a - c);
        int sign = c < a ? -1 : 1;
        int worst = 0;
        for (int u = 0; u < 24; u++) {
            boolean between = u >= Math.min(a, c) && u <= Math.max(a, c);
            if (Integer.bitCount(columns[u]) != (between ? 1 : 0)) {
                return Integer.MAX_VALUE;
            }
            if (between) {
                int v = Integer.numberOfTrailingZeros(columns[u]);
                int over = 2 * ((v - b) * length - sign * (u - a) * (d - b));
                worst = Math.max(worst, upwards ? over : Math.abs(over));
            }
        }
        return worst;
    }
}
