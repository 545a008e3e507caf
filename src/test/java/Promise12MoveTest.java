/** Promise 12: move. */
public final class Promise12MoveTest {
    public static void main(String[] args) {
        Check check = new Check("Promise12");
        check.sentence("Moves all pixels by dx and dy", Promise12MoveTest::everyMove);
        check.sentence("(both from -24 to 24): both ends", Promise12MoveTest::ends);
        check.sentence("what leaves the raster is lost", Promise12MoveTest::leaves);
        check.sentence("what comes in is 0", Promise12MoveTest::comesIn);
        check.sentence("Answers how many pixels that were 1 were lost", Promise12MoveTest::howMany);
        check.sentence("Moves: whichever the pen is", Promise12MoveTest::penHasNoPart);
        check.sentence("BAD if dx or dy is out of range: dx", Promise12MoveTest::badDx);
        check.sentence("BAD if dx or dy is out of range: dy", Promise12MoveTest::badDy);
        check.end();
    }

    private static void everyMove(Check check) {
        RasterRules small = new RasterRules();
        small.triangle(0, 2, Check.at(0, 2));
        check.due("move(0, 0)", small.move(0, 0), 0);
        check.picture("move(0, 0)", small, "###", "##", "#");
        check.due("move(1, 2)", small.move(1, 2), 0);
        check.picture("move(1, 2)", small, "", "", ".###", ".##", ".#");
        check.due("move(2, -1)", small.move(2, -1), 0);
        check.picture("move(2, -1)", small, "", "...###", "...##", "...#");
        check.due("move(-3, -1)", small.move(-3, -1), 0);
        check.picture("move(-3, -1)", small, "###", "##", "#");
        for (int dx = -24; dx <= 24; dx++) {
            for (int dy = -24; dy <= 24; dy++) {
                RasterRules raster = new RasterRules();
                Model model = new Model();
                raster.disc(Check.at(9, 14), 9);
                model.disc(Check.at(9, 14), 9);
                raster.triangle(0, 23, Check.at(23, 20));
                model.triangle(0, 23, Check.at(23, 20));
                String what = "move(" + dx + ", " + dy + ")";
                check.due(what, raster.move(dx, dy), model.move(dx, dy));
                check.same(what, raster, model);
            }
        }
    }

    private static void ends(Check check) {
        int[][] all = {{24, 0}, {-24, 0}, {0, 24}, {0, -24}, {24, 24}, {-24, -24}, {24, -24}, {-24, 24}, {24, 1}, {-1, -24}};
        for (int[] by : all) {
            RasterRules raster = Check.full();
            String what = "move(" + by[0] + ", " + by[1] + ")";
            check.due(what, raster.move(by[0], by[1]), 576);
            check.rows(what, raster, new int[24]);
        }
        int[] rows = new int[24];
        java.util.Arrays.fill(rows, 1 << 23);
        nearlyAll(check, 23, 0, rows);
        java.util.Arrays.fill(rows, 1);
        nearlyAll(check, -23, 0, rows);
        java.util.Arrays.fill(rows, 0);
        rows[23] = Check.FULL_ROW;
        nearlyAll(check, 0, 23, rows);
        rows[23] = 0;
        rows[0] = Check.FULL_ROW;
        nearlyAll(check, 0, -23, rows);
        RasterRules corner = new RasterRules();
        corner.disc(0, 0);
        check.due("from corner to corner", corner.move(23, 23), 0);
        check.due("get(759)", corner.get(759), 1);
        check.due("and back", corner.move(-23, -23), 0);
        check.picture("and back", corner, "#");
    }

    private static void nearlyAll(Check check, int dx, int dy, int[] rows) {
        RasterRules raster = Check.full();
        String what = "move(" + dx + ", " + dy + ")";
        check.due(what, raster.move(dx, dy), 576 - 24);
        check.rows(what, raster, rows);
    }

    /** A pixel beyond a side does not come back, neither by the same way nor on the other side. */
    private static void leaves(Check check) {
        int[][] steps = {{1, 0}, {-1, 0}, {0, 1}, {0, -1}};
        int[][] starts = {{23, 5}, {0, 5}, {5, 23}, {5, 0}};
        for (int i = 0; i < 4; i++) {
            int dx = steps[i][0];
            int dy = steps[i][1];
            RasterRules raster = new RasterRules();
            raster.disc(Check.at(starts[i][0], starts[i][1]), 0);
            String what = "move(" + dx + ", " + dy + ")";
            check.due(what, raster.move(dx, dy), 1);
            check.rows(what, raster, new int[24]);
            check.due(what + " back", raster.move(-dx, -dy), 0);
            check.rows(what + " back", raster, new int[24]);
        }
    }

    private static void comesIn(Check check) {
        for (int d = 0; d <= 24; d++) {
            RasterRules right = Check.full();
            RasterRules left = Check.full();
            RasterRules down = Check.full();
            RasterRules up = Check.full();
            right.move(d, 0);
            left.move(-d, 0);
            down.move(0, d);
            up.move(0, -d);
            for (int y = 0; y < 24; y++) {
                check.due("right by " + d + ", row(" + y + ")", right.row(y), (1 << 24) - (1 << d));
                check.due("left by " + d + ", row(" + y + ")", left.row(y), (1 << 24 - d) - 1);
                check.due("down by " + d + ", row(" + y + ")", down.row(y), y < d ? 0 : 16777215);
                check.due("up by " + d + ", row(" + y + ")", up.row(y), y >= 24 - d ? 0 : 16777215);
            }
        }
    }

    private static void howMany(Check check) {
        for (int dx = -24; dx <= 24; dx++) {
            for (int dy = -24; dy <= 24; dy++) {
                int left = (24 - Math.abs(dx)) * (24 - Math.abs(dy));
                check.due("move(" + dx + ", " + dy + ") of all", Check.full().move(dx, dy), 576 - left);
                check.due("move(" + dx + ", " + dy + ") of none", new RasterRules().move(dx, dy), 0);
            }
        }
        RasterRules raster = new RasterRules();
        raster.line(0, 2);
        check.due("some lost", raster.move(-1, 0), 1);
        check.due("none that is 1 lost", raster.move(5, 5), 0);
        check.due("count()", raster.count(), 2);
    }

    private static void penHasNoPart(Check check) {
        for (int pen = 0; pen <= 2; pen++) {
            RasterRules raster = new RasterRules();
            raster.line(0, 2);
            raster.pen(pen);
            check.due("move(-1, 1) with pen " + pen, raster.move(-1, 1), 1);
            check.picture("move(-1, 1) with pen " + pen, raster, "", "##");
            check.due("the pen stays", raster.line(32, 34), new int[] {1, 2, 3}[pen]);
        }
    }

    private static void badDx(Check check) {
        for (int bad : Check.outside(-24, 24)) {
            check.refused("move(" + bad + ", 0)", RasterRules.BAD, raster -> raster.move(bad, 0));
            check.refused("move(" + bad + ", 24)", RasterRules.BAD, raster -> raster.move(bad, 24));
        }
    }

    private static void badDy(Check check) {
        for (int bad : Check.outside(-24, 24)) {
            check.refused("move(0, " + bad + ")", RasterRules.BAD, raster -> raster.move(0, bad));
            check.refused("move(-24, " + bad + ")", RasterRules.BAD, raster -> raster.move(-24, bad));
            check.refused("move(" + bad + ", " + bad + ")", RasterRules.BAD, raster -> raster.move(bad, bad));
        }
    }
}
