/** Promise 3: line. */
public final class Promise03LineTest {
    public static void main(String[] args) {
        Check check = new Check("Promise03");
        pictures(check);
        everyLine(check);
        pens(check);
        wrongNumbers(check);
        check.end();
    }

    private static void pictures(Check check) {
        both(check, "a point", 1, 1, 1, 1, "", ".#");
        both(check, "flat", 0, 1, 3, 1, "", "####");
        both(check, "upright", 1, 0, 1, 3, ".#", ".#", ".#", ".#");
        both(check, "diagonal down", 0, 0, 2, 2, "#", ".#", "..#");
        both(check, "diagonal up", 0, 2, 2, 0, "..#", ".#", "#");
        both(check, "tie of y, falling", 0, 0, 2, 1, "##", "..#");
        both(check, "tie of y, rising", 0, 1, 2, 0, ".##", "#");
        both(check, "tie of x, to the right", 0, 0, 1, 2, "#", "#", ".#");
        both(check, "tie of x, to the left", 1, 0, 0, 2, ".#", "#", "#");
        both(check, "two ties", 0, 0, 4, 2, "##", "..##", "....#");
        both(check, "two ties, rising", 0, 2, 4, 0, "...##", ".##", "#");
        both(check, "thirds", 0, 0, 3, 1, "##", "..##");
        both(check, "thirds, rising", 0, 1, 3, 0, "..##", "##");
        both(check, "steep thirds", 0, 0, 1, 3, "#", "#", ".#", ".#");
    }

    private static void both(Check check, String what, int a, int b, int c, int d, String... picture) {
        int from = Check.at(a, b);
        int to = Check.at(c, d);
        int size = Math.max(Math.abs(a - c), Math.abs(b - d)) + 1;
        RasterRules there = new RasterRules();
        check.due(what, there.line(from, to), size);
        check.picture(what, there, picture);
        check.due(what + " again", there.line(from, to), 0);
        RasterRules back = new RasterRules();
        check.due(what + " backwards", back.line(to, from), size);
        check.picture(what + " backwards", back, picture);
    }

    private static void everyLine(Check check) {
        for (int from = 0; from < 760; from++) {
            // A stride of 5 starts all over the raster; each of them goes to every pixel.
            if (from % 32 >= 24 || from % 5 != 0 && from % 32 != 0 && from % 32 != 23) {
                continue;
            }
            for (int to = 0; to < 760; to++) {
                if (to % 32 < 24) {
                    RasterRules raster = new RasterRules();
                    Model model = new Model();
                    String what = "line(" + from + ", " + to + ")";
                    check.due(what, raster.line(from, to), model.line(from, to));
                    check.same(what, raster, model);
                }
            }
        }
    }

    private static void pens(Check check) {
        RasterRules raster = new RasterRules();
        raster.pen(2);
        check.due("turned over", raster.line(Check.at(0, 0), Check.at(23, 7)), 24);
        check.due("turned over crosswise", raster.line(Check.at(0, 0), Check.at(7, 23)), 24);
        check.due("the common point is 0", raster.get(0), 0);
        check.due("count()", raster.count(), 46);
        raster.pen(1);
        check.due("made 0", raster.line(Check.at(23, 7), Check.at(0, 0)), 23);
        check.due("count()", raster.count(), 23);
    }

    private static void wrongNumbers(Check check) {
        for (int bad : Check.noPixels()) {
            RasterRules raster = new RasterRules();
            raster.pen(2);
            check.due("line(" + bad + ", 0)", raster.line(bad, 0), RasterRules.BAD);
            check.due("line(759, " + bad + ")", raster.line(759, bad), RasterRules.BAD);
            check.due("line(" + bad + ", " + bad + ")", raster.line(bad, bad), RasterRules.BAD);
            check.picture("after line with " + bad, raster);
        }
    }
}
