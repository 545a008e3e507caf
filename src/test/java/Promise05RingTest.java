/** Promise 5: ring, and the ring of 'Terms'. */
public final class Promise05RingTest {
    public static void main(String[] args) {
        Check check = new Check("Promise05");
        check.sentence("all points (a + u, b + v) and (a + v, b + u) with whole u and v", Promise05RingTest::points);
        check.sentence("u without sign is at most v without sign", Promise05RingTest::atMost);
        check.sentence("v without sign is the whole number nearest to the square root of r^2 - u^2", Promise05RingTest::nearest);
        check.sentence("(two are never equally near)", Promise05RingTest::neverEquallyNear);
        check.sentence("a ring with the radius 0", Promise05RingTest::radius0);
        check.sentence("a ring with the radius 30", Promise05RingTest::radius30);
        check.sentence("Draws a ring around a pixel", Promise05RingTest::everyRing);
        check.sentence("answers how many pixels changed", Promise05RingTest::changed);
        check.sentence("BAD as for disc: middle is no pixel's number", Promise05RingTest::badMiddle);
        check.sentence("BAD as for disc: r is outside 0..30", Promise05RingTest::badRadius);
        check.end();
    }

    private static void points(Check check) {
        draws(check, 1, 4, "", "", "...#", "..#.#", "...#");
        draws(check, 2, 12, "", "..###", ".#...#", ".#...#", ".#...#", "..###");
        draws(check, 3, 16, "..###", ".#...#", "#.....#", "#.....#", "#.....#", ".#...#", "..###");
    }

    /** With pen 2, too: a point that the ring has twice is turned over once. */
    private static void draws(Check check, int r, int size, String... picture) {
        for (int pen = 0; pen <= 2; pen += 2) {
            RasterRules raster = new RasterRules();
            raster.pen(pen);
            check.due("radius " + r, raster.ring(Check.at(3, 3), r), size);
            check.picture("radius " + r, raster, picture);
        }
    }

    /** u below v is there; where they are equal the ring has a point on each diagonal, else it has none there. */
    private static void atMost(Check check) {
        has(check, 5, 1, 5, 4);
        has(check, 7, 2, 7, 6);
        has(check, 10, 4, 9, 8);
        int[] diagonal = new int[31];
        // sqrt(3^2 - 2^2) is 2.2, and so on.
        diagonal[3] = 2;
        diagonal[4] = 3;
        diagonal[6] = 4;
        diagonal[7] = 5;
        diagonal[10] = 7;
        diagonal[11] = 8;
        diagonal[13] = 9;
        diagonal[14] = 10;
        for (int r = 1; r <= 15; r++) {
            RasterRules raster = new RasterRules();
            raster.ring(Check.at(11, 11), r);
            for (int u = 1; u <= 11; u++) {
                int want = u == diagonal[r] ? 1 : 0;
                check.due("radius " + r + ", (" + u + ", " + u + ")", raster.get(Check.at(11 + u, 11 + u)), want);
                check.due("radius " + r + ", (-" + u + ", " + u + ")", raster.get(Check.at(11 - u, 11 + u)), want);
                check.due("radius " + r + ", (" + u + ", -" + u + ")", raster.get(Check.at(11 + u, 11 - u)), want);
                check.due("radius " + r + ", (-" + u + ", -" + u + ")", raster.get(Check.at(11 - u, 11 - u)), want);
            }
        }
    }

    /** Each ring that is there, from each corner: the points of one quarter and no others. */
    private static void nearest(Check check) {
        for (int r = 0; r <= 30; r++) {
            int[] rows = new int[24];
            for (int u = 0; u < 24; u++) {
                for (int v = u; v < 24; v++) {
                    if (isNearest(v, r * r - u * u)) {
                        rows[v] |= 1 << u;
                        rows[u] |= 1 << v;
                    }
                }
            }
            int[] flipped = new int[24];
            int[] mirrored = new int[24];
            int[] both = new int[24];
            for (int y = 0; y < 24; y++) {
                flipped[23 - y] = rows[y];
                mirrored[y] = Integer.reverse(rows[y]) >>> 8;
                both[23 - y] = mirrored[y];
            }
            fromCorner(check, 0, r, rows);
            fromCorner(check, 23, r, mirrored);
            fromCorner(check, 736, r, flipped);
            fromCorner(check, 759, r, both);
        }
    }

    private static void fromCorner(Check check, int corner, int r, int[] rows) {
        RasterRules raster = new RasterRules();
        check.due("ring(" + corner + ", " + r + ")", raster.ring(corner, r), Check.ones(rows));
        check.rows("ring(" + corner + ", " + r + ")", raster, rows);
    }

    /** v - 1/2 < sqrt(n) < v + 1/2, in whole numbers. */
    private static boolean isNearest(int v, int n) {
        boolean low = v == 0 || (2 * v - 1) * (2 * v - 1) < 4 * n;
        return n >= 0 && low && 4 * n < (2 * v + 1) * (2 * v + 1);
    }

    /** Roots as near to a half as they come: v * (v + 1) is just below v + 1/2, v * (v + 1) + 1 just above. */
    private static void neverEquallyNear(Check check) {
        has(check, 4, 2, 3, 4);    // sqrt(12) = 3.46
        has(check, 6, 4, 4, 5);    // sqrt(20) = 4.47
        has(check, 9, 5, 7, 8);    // sqrt(56) = 7.48
        has(check, 4, 3, 3, 4);    // sqrt(7) = 2.65 (that ring has (2, 3), so (3, 2), too)
        has(check, 5, 2, 5, 4);    // sqrt(21) = 4.58
        has(check, 11, 8, 8, 9);   // sqrt(57) = 7.55 (that ring has (7, 8), so (8, 7), too)
        has(check, 2, 1, 2, 1);    // sqrt(3) = 1.73
        for (int r = 0; r <= 30; r++) {
            for (int u = 0; u <= r; u++) {
                int near = 0;
                for (int v = 0; v <= 31; v++) {
                    near += isNearest(v, r * r - u * u) ? 1 : 0;
                }
                check.due("whole numbers nearest to sqrt(" + r + "^2 - " + u + "^2)", near, 1);
            }
        }
    }

    private static void has(Check check, int r, int u, int v, int not) {
        RasterRules raster = new RasterRules();
        raster.ring(Check.at(11, 11), r);
        int[] signs = {-1, 1};
        for (int i : signs) {
            for (int j : signs) {
                String what = "radius " + r + ", u = " + i * u + ", ";
                check.due(what + "v = " + j * v, raster.get(Check.at(11 + i * u, 11 + j * v)), 1);
                check.due(what + "v = " + j * v + " exchanged", raster.get(Check.at(11 + j * v, 11 + i * u)), 1);
                check.due(what + "v = " + j * not, raster.get(Check.at(11 + i * u, 11 + j * not)), 0);
                check.due(what + "v = " + j * not + " exchanged", raster.get(Check.at(11 + j * not, 11 + i * u)), 0);
            }
        }
    }

    private static void radius0(Check check) {
        for (int pen = 0; pen <= 2; pen += 2) {
            for (int pixel : Check.pixels()) {
                RasterRules raster = new RasterRules();
                int[] rows = new int[24];
                rows[pixel / 32] = 1 << pixel % 32;
                raster.pen(pen);
                check.due("ring(" + pixel + ", 0)", raster.ring(pixel, 0), 1);
                check.rows("ring(" + pixel + ", 0)", raster, rows);
            }
        }
    }

    private static void radius30(Check check) {
        RasterRules raster = new RasterRules();
        int[] rows = new int[24];
        // u = 19: sqrt(539) = 23.2; u = 20: sqrt(500) = 22.4; u = 21: sqrt(459) = 21.4; u = 18 has v = 24, off the raster.
        rows[19] = 1 << 23;
        rows[20] = 1 << 22;
        rows[21] = 1 << 21;
        rows[22] = 1 << 20;
        rows[23] = 1 << 19;
        check.due("ring(0, 30)", raster.ring(0, 30), 5);
        check.rows("ring(0, 30)", raster, rows);
        check.due("ring(23, 30)", new RasterRules().ring(23, 30), 5);
        check.due("ring(736, 30)", new RasterRules().ring(736, 30), 5);
        check.due("ring(759, 30)", new RasterRules().ring(759, 30), 5);
        check.due("ring(395, 30)", new RasterRules().ring(395, 30), 0);
    }

    private static void everyRing(Check check) {
        for (int pixel : Check.pixels()) {
            for (int r = 0; r <= 30; r++) {
                RasterRules raster = new RasterRules();
                Model model = new Model();
                raster.pen(2);
                model.pen(2);
                String what = "ring(" + pixel + ", " + r + ")";
                check.due(what, raster.ring(pixel, r), model.ring(pixel, r));
                check.same(what, raster, model);
            }
        }
    }

    private static void changed(Check check) {
        RasterRules raster = new RasterRules();
        check.due("all new", raster.ring(Check.at(3, 3), 3), 16);
        check.due("none new", raster.ring(Check.at(3, 3), 3), 0);
        raster.pen(1);
        check.due("some made 0", raster.ring(Check.at(4, 3), 3), 4);
        check.due("none made 0", raster.ring(Check.at(4, 3), 3), 0);
        raster.pen(2);
        check.due("turned over", raster.ring(Check.at(3, 3), 3), 16);
        check.due("count()", raster.count(), 4);
    }

    private static void badMiddle(Check check) {
        for (int bad : Check.noPixels()) {
            check.refused("ring(" + bad + ", 3)", RasterRules.BAD, raster -> raster.ring(bad, 3));
            check.refused("ring(" + bad + ", -1)", RasterRules.BAD, raster -> raster.ring(bad, -1));
        }
    }

    private static void badRadius(Check check) {
        for (int bad : Check.outside(0, 30)) {
            check.refused("ring(395, " + bad + ")", RasterRules.BAD, raster -> raster.ring(395, bad));
        }
    }
}
