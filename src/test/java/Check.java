/** Gathers the answers that are not the ones due; ends the test with 1 if there was one. */
final class Check {
    private static final int SHOWN = 20;
    private final String test;
    private int calls = 0;
    private int wrong = 0;

    Check(String test) {
        this.test = test;
    }

    void due(String call, long got, long want) {
        calls++;
        if (got != want) {
            wrong++;
            if (wrong <= SHOWN) {
                System.out.println(test + ": " + call + " answered " + got + ", due is " + want);
            }
        }
    }

    void due(String call, boolean got, boolean want) {
        due(call, got ? 1 : 0, want ? 1 : 0);
    }

    /** The raster has 1 where the picture has '#', and 0 beyond the picture. */
    void picture(String what, RasterRules raster, String... picture) {
        int ones = 0;
        for (int y = 0; y < 24; y++) {
            int bits = 0;
            for (int x = 0; y < picture.length && x < picture[y].length(); x++) {
                if (picture[y].charAt(x) == '#') {
                    bits |= 1 << x;
                    ones++;
                }
            }
            due(what + ", row(" + y + ")", raster.row(y), bits);
        }
        due(what + ", count()", raster.count(), ones);
    }

    /** Every answer about the state is the model's. */
    void same(String what, RasterRules raster, Model model) {
        for (int y = 0; y < 24; y++) {
            due(what + ", row(" + y + ")", raster.row(y), model.row(y));
        }
        due(what + ", count()", raster.count(), model.count());
    }

    void end() {
        System.out.println(test + ": " + calls + " answers, " + wrong + " not as due");
        if (wrong != 0) {
            System.exit(1);
        }
    }

    static int at(int x, int y) {
        return 32 * y + x;
    }

    /** Numbers around every limit that a pixel's number has. */
    static int[] noPixels() {
        return new int[] {
            -1, -2, -8, -9, -24, -31, -32, -33, -736, -1024, 24, 25, 31, 56, 63, 31 + 32 * 11, 24 + 32 * 22,
            760, 767, 768, 769, 791, 800, 1023, 1024, 32 * 24 + 5, 1 << 16, 1 << 29, (1 << 30) + 5,
            Integer.MAX_VALUE, Integer.MAX_VALUE - 31, Integer.MIN_VALUE, Integer.MIN_VALUE + 1, Integer.MIN_VALUE + 40
        };
    }

    static int[] noRadii() {
        return new int[] {-1, -2, -30, 31, 32, 33, 100, 46341, 65536, Integer.MAX_VALUE, Integer.MIN_VALUE, -65536};
    }
}
