/** Promise 12: move. */
public final class Promise12MoveTest {
    public static void main(String[] args) {
        Check check = new Check("Promise12");
        pictures(check);
        everyMove(check);
        penHasNoPart(check);
        wrongNumbers(check);
        check.end();
    }

    private static void pictures(Check check) {
        RasterRules raster = new RasterRules();
        raster.triangle(0, 2, Check.at(0, 2));
        check.picture("at first", raster, "###", "##", "#");
        check.due("move(0, 0)", raster.move(0, 0), 0);
        check.picture("move(0, 0)", raster, "###", "##", "#");
        check.due("move(1, 2)", raster.move(1, 2), 0);
        check.picture("move(1, 2)", raster, "", "", ".###", ".##", ".#");
        check.due("move(-2, 0)", raster.move(-2, 0), 3);
        check.picture("move(-2, 0)", raster, "", "", "##", "#");
        check.due("move(0, -3)", raster.move(0, -3), 2);
        check.picture("move(0, -3)", raster, "#");
        check.due("move(23, 23)", raster.move(23, 23), 0);
        check.due("the last pixel", raster.get(759), 1);
        check.due("move(-23, -23)", raster.move(-23, -23), 0);
        check.picture("move(-23, -23)", raster, "#");
        check.due("move(0, -24)", raster.move(0, -24), 1);
        check.picture("move(0, -24)", raster);
        check.due("nothing to lose", raster.move(24, 24), 0);
    }

    private static void everyMove(Check check) {
        for (int dx = -24; dx <= 24; dx++) {
            for (int dy = -24; dy <= 24; dy++) {
                RasterRules raster = new RasterRules();
                Model model = new Model();
                raster.disc(Check.at(9, 14), 9);
                model.disc(Check.at(9, 14), 9);
                raster.triangle(0, 23, Check.at(23, 20));
                model.triangle(0, 23, Check.at(23, 20));
                String what = "move(" + dx + ", " + dy + ")";
                check.due(what, raster.move(dx, dy), model.move(dx, dy));
                check.same(what, raster, model);
            }
        }
        for (int d = -24; d <= 24; d += 48) {
            RasterRules full = new RasterRules();
            full.blot(0, 0, 0);
            check.due("all lost", full.move(d == 24 ? 24 : 0, d), 576);
            full.blot(0, 0, 0);
            check.due("all lost", full.move(d, 0), 576);
            check.due("count()", full.count(), 0);
        }
    }

    private static void penHasNoPart(Check check) {
        for (int pen = 0; pen <= 2; pen++) {
            RasterRules raster = new RasterRules();
            raster.line(0, 2);
            raster.pen(pen);
            check.due("move(-1, 1) with pen " + pen, raster.move(-1, 1), 1);
            check.picture("move(-1, 1) with pen " + pen, raster, "", "##");
        }
    }

    private static void wrongNumbers(Check check) {
        RasterRules raster = new RasterRules();
        raster.line(0, 2);
        for (int bad : new int[] {-25, 25, -26, 26, 32, -32, 33, 64, 256, Integer.MAX_VALUE, Integer.MIN_VALUE}) {
            check.due("move(" + bad + ", 0)", raster.move(bad, 0), RasterRules.BAD);
            check.due("move(0, " + bad + ")", raster.move(0, bad), RasterRules.BAD);
            check.due("move(1, " + bad + ")", raster.move(1, bad), RasterRules.BAD);
            check.due("move(" + bad + ", 1)", raster.move(bad, 1), RasterRules.BAD);
            check.due("move(" + bad + ", " + bad + ")", raster.move(bad, bad), RasterRules.BAD);
        }
        check.picture("after refused moves", raster, "###");
    }
}
