import java.util.function.Consumer;
import java.util.function.ToIntFunction;
import java.util.stream.IntStream;

/**
 * Gathers the answers that are not the ones due; ends the test with 1 if there was one. Each test is about one
 * sentence of the document, so that a fault is told with the sentence that it breaks.
 */
final class Check {
    static final int SIDE = 24;
    static final int FULL_ROW = 16777215;
    private static final int SHOWN = 5;
    private static final int LONGEST_MILLISECONDS = 300_000;
    private final String test;
    private volatile String sentence = "";
    private int sentences = 0;
    private int calls = 0;
    private int wrong = 0;
    private int wrongHere = 0;

    Check(String test) {
        this.test = test;
        Thread watch = new Thread(this::endLongTest);
        watch.setDaemon(true);
        watch.start();
    }

    /** A call that fails to end must fail the test, too. */
    private void endLongTest() {
        try {
            Thread.sleep(LONGEST_MILLISECONDS);
        } catch (InterruptedException e) {
            return;
        }
        System.out.println(test + ", '" + sentence + "': did not end");
        Runtime.getRuntime().halt(1);
    }

    /** A test of its own for one sentence; one that asks for no answer, or ends in an exception, fails. */
    void sentence(String words, Consumer<Check> own) {
        sentence = words;
        sentences++;
        wrongHere = 0;
        int before = calls;
        try {
            own.accept(this);
        } catch (RuntimeException e) {
            fault("ended in " + e);
        }
        if (calls == before) {
            fault("no answer was asked for");
        }
        sentence = "";
    }

    void due(String call, long got, long want) {
        calls++;
        if (got != want) {
            fault(call + " answered " + got + ", due is " + want);
        }
    }

    void due(String call, boolean got, boolean want) {
        due(call, got ? 1 : 0, want ? 1 : 0);
    }

    private void fault(String words) {
        wrong++;
        wrongHere++;
        if (wrongHere <= SHOWN) {
            System.out.println(test + ", '" + sentence + "': " + words);
        }
    }

    /** The raster has 1 where the picture has '#', and 0 beyond the picture. */
    void picture(String what, RasterRules raster, String... picture) {
        int[] rows = new int[SIDE];
        for (int y = 0; y < picture.length; y++) {
            for (int x = 0; x < picture[y].length(); x++) {
                rows[y] |= picture[y].charAt(x) == '#' ? 1 << x : 0;
            }
        }
        rows(what, raster, rows);
    }

    /** Every answer about the state is the model's. */
    void same(String what, RasterRules raster, Model model) {
        int[] rows = new int[SIDE];
        for (int y = 0; y < SIDE; y++) {
            rows[y] = model.row(y);
        }
        rows(what, raster, rows);
    }

    /** The raster's rows are these, and its count is theirs. */
    void rows(String what, RasterRules raster, int[] want) {
        for (int y = 0; y < SIDE; y++) {
            int got = raster.row(y);
            calls++;
            if (got != want[y]) {
                fault(what + ", row(" + y + ") answered " + got + ", due is " + want[y]);
            }
        }
        due(what + ", count()", raster.count(), ones(want));
    }

    /** The call answers this refusal and changes nothing: no pixel, and not the pen, whichever it is. */
    void refused(String call, int refusal, ToIntFunction<RasterRules> ask) {
        for (int pen = 0; pen <= 2; pen++) {
            RasterRules raster = mixed();
            int[] rows = rowsOf(raster);
            raster.pen(pen);
            due(call, ask.applyAsInt(raster), refusal);
            rows("after " + call, raster, rows);
            int before = rows[11];
            rows[11] = pen == 0 ? FULL_ROW : pen == 1 ? 0 : FULL_ROW ^ before;
            int changed = Integer.bitCount(before ^ rows[11]);
            due("line with pen " + pen + " after " + call, raster.line(at(0, 11), at(23, 11)), changed);
            rows("line with pen " + pen + " after " + call, raster, rows);
        }
    }

    void end() {
        System.out.println(test + ": " + sentences + " sentences, " + calls + " answers, " + wrong + " not as due");
        if (wrong != 0) {
            System.exit(1);
        }
    }

    static int at(int x, int y) {
        return 32 * y + x;
    }

    /** The numbers of all pixels, by rows. */
    static int[] pixels() {
        int[] numbers = new int[SIDE * SIDE];
        for (int i = 0; i < numbers.length; i++) {
            numbers[i] = at(i % SIDE, i / SIDE);
        }
        return numbers;
    }

    /** Zeros and ones in every row but the last, and in the first and the last column. */
    static RasterRules mixed() {
        RasterRules raster = new RasterRules();
        raster.line(at(0, 0), at(22, 22));
        raster.line(at(23, 0), at(1, 22));
        raster.line(at(0, 9), at(6, 9));
        raster.line(at(0, 4), at(0, 13));
        raster.line(at(23, 7), at(23, 17));
        return raster;
    }

    static RasterRules full() {
        RasterRules raster = new RasterRules();
        for (int y = 0; y < SIDE; y++) {
            raster.line(at(0, y), at(23, y));
        }
        return raster;
    }

    static int[] rowsOf(RasterRules raster) {
        int[] rows = new int[SIDE];
        for (int y = 0; y < SIDE; y++) {
            rows[y] = raster.row(y);
        }
        return rows;
    }

    static int ones(int[] rows) {
        int sum = 0;
        for (int row : rows) {
            sum += Integer.bitCount(row);
        }
        return sum;
    }

    /** All that lie near the raster's numbers or between its rows, and those that a wrap-around would take for a pixel's. */
    static int[] noPixels() {
        IntStream near = IntStream.rangeClosed(-1100, 1100);
        return IntStream.concat(near, wrapped(new int[] {0, 23, 395, 736, 759}))
            .filter(number -> !isPixel(number)).toArray();
    }

    static boolean isPixel(int number) {
        return number >= 0 && number < 768 && number % 32 < SIDE;
    }

    /** Numbers on both sides of the range from low to high, and those that a wrap-around would take into it. */
    static int[] outside(int low, int high) {
        IntStream near = IntStream.rangeClosed(low - 80, high + 80);
        return IntStream.concat(near, wrapped(new int[] {low, 0, 1, high}))
            .filter(number -> number < low || number > high).toArray();
    }

    /** Each of the numbers with one higher bit more or less, up to the greatest and the smallest int. */
    private static IntStream wrapped(int[] numbers) {
        IntStream.Builder all = IntStream.builder();
        for (int bit = 7; bit < 32; bit++) {
            for (int number : numbers) {
                all.add(number + (1 << bit)).add(number - (1 << bit));
            }
        }
        // The squares of 46341 and 65536 leave the range of an int.
        return all.add(46341).add(-46341).add(65536).add(-65536)
            .add(Integer.MAX_VALUE).add(Integer.MAX_VALUE - 8).add(Integer.MIN_VALUE).add(Integer.MIN_VALUE + 1).build();
    }
}
