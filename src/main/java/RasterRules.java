/** Figures on a small raster, exact to the pixel. */
public final class RasterRules {
    public static final int BAD = -1;

    private static final int SIDE = 24;
    private static final int PIXELS = SIDE * SIDE;
    private static final int FULL_ROW = (1 << SIDE) - 1;
    private static final int NUMBER_SHIFT = 5;
    private static final int NUMBER_MASK = (1 << NUMBER_SHIFT) - 1;
    private static final int MAX_RADIUS = 30;
    private static final int PEN_SET = 0;
    private static final int PEN_CLEAR = 1;
    private static final int PEN_TURN = 2;

    // Bit x of rows[y] is pixel (x, y).
    private final int[] rows = new int[SIDE];
    // A figure is gathered as a set before it is drawn: a point that it has
    // twice must not be turned over twice, nor be counted twice.
    private final int[] figure = new int[SIDE];
    private final int[] moved = new int[SIDE];
    private final int[] queue = new int[PIXELS];
    private int queued;
    private int currentPen;

    public RasterRules() {
        queued = 0;
        currentPen = PEN_SET;
    }

    public boolean pen(int p) {
        if (p < PEN_SET || p > PEN_TURN) {
            return false;
        }
        currentPen = p;
        return true;
    }

    public int line(int from, int to) {
        if (!isPixel(from) || !isPixel(to)) {
            return BAD;
        }
        clearFigure();
        markLine(from, to);
        return drawFigure();
    }

    public int disc(int middle, int r) {
        if (!isPixel(middle) || !isRadius(r)) {
            return BAD;
        }
        clearFigure();
        markDisc(middle, r);
        return drawFigure();
    }

    public int ring(int middle, int r) {
        if (!isPixel(middle) || !isRadius(r)) {
            return BAD;
        }
        clearFigure();
        markRing(middle, r);
        return drawFigure();
    }

    public int blot(int middle, int p, int q) {
        if (!isPixel(middle) || !isRadius(p) || !isRadius(q)) {
            return BAD;
        }
        clearFigure();
        markBlot(middle, p, q);
        return drawFigure();
    }

    public int triangle(int first, int second, int third) {
        if (!isPixel(first) || !isPixel(second) || !isPixel(third)) {
            return BAD;
        }
        clearFigure();
        markTriangle(first, second, third);
        return drawFigure();
    }

    public int flood(int pixel) {
        if (!isPixel(pixel)) {
            return BAD;
        }
        int x = columnOf(pixel);
        int y = rowOf(pixel);
        int value = valueAt(x, y);
        queued = 0;
        reach(x, y, value);
        for (int next = 0; next < queued && next < PIXELS; next++) {
            reachNeighbours(queue[next], value);
        }
        return queued;
    }

    public int get(int pixel) {
        if (!isPixel(pixel)) {
            return BAD;
        }
        int x = columnOf(pixel);
        int y = rowOf(pixel);
        return valueAt(x, y);
    }

    public int count() {
        int sum = 0;
        for (int y = 0; y < SIDE; y++) {
            sum += ones(rows[y]);
        }
        return sum;
    }

    public int row(int y) {
        if (!isOnSide(y)) {
            return BAD;
        }
        return rows[y];
    }

    public int move(int dx, int dy) {
        if (!isStep(dx) || !isStep(dy)) {
            return BAD;
        }
        int before = count();
        for (int y = 0; y < SIDE; y++) {
            int source = y - dy;
            moved[y] = isOnSide(source) ? shifted(rows[source], dx) : 0;
        }
        for (int y = 0; y < SIDE; y++) {
            rows[y] = moved[y];
        }
        return before - count();
    }

    private static boolean isOnSide(int coordinate) {
        return coordinate >= 0 && coordinate < SIDE;
    }

    private static boolean isPixel(int number) {
        int x = columnOf(number);
        int y = rowOf(number);
        return isOnSide(x) && isOnSide(y);
    }

    private static boolean isRadius(int r) {
        return r >= 0 && r <= MAX_RADIUS;
    }

    private static boolean isStep(int step) {
        return step >= -SIDE && step <= SIDE;
    }

    private static int columnOf(int number) {
        return number & NUMBER_MASK;
    }

    // The shift keeps the sign, so that a negative number has no row of the raster.
    private static int rowOf(int number) {
        return number >> NUMBER_SHIFT;
    }

    private static int distance(int a, int b) {
        return a < b ? b - a : a - b;
    }

    private static int smaller(int a, int b) {
        return a < b ? a : b;
    }

    private static int greater(int a, int b) {
        return a < b ? b : a;
    }

    private static int ones(int bits) {
        int sum = 0;
        for (int x = 0; x < SIDE; x++) {
            sum += (bits >> x) & 1;
        }
        return sum;
    }

    private static int shifted(int bits, int dx) {
        return dx < 0 ? bits >> -dx : (bits << dx) & FULL_ROW;
    }

    private int valueAt(int x, int y) {
        return isOnSide(x) && isOnSide(y) ? (rows[y] >> x) & 1 : 0;
    }

    private void clearFigure() {
        for (int y = 0; y < SIDE; y++) {
            figure[y] = 0;
        }
    }

    private void mark(int x, int y) {
        if (isOnSide(x) && isOnSide(y)) {
            figure[y] |= 1 << x;
        }
    }

    private int drawFigure() {
        int changed = 0;
        for (int y = 0; y < SIDE; y++) {
            int before = rows[y];
            int after = drawn(before, figure[y]);
            changed += ones(before ^ after);
            rows[y] = after;
        }
        return changed;
    }

    private int drawn(int bits, int marks) {
        if (currentPen == PEN_SET) {
            return bits | marks;
        }
        if (currentPen == PEN_CLEAR) {
            return bits & ~marks;
        }
        return bits ^ marks;
    }

    private void markLine(int from, int to) {
        int a = columnOf(from);
        int b = rowOf(from);
        int c = columnOf(to);
        int d = rowOf(to);
        if (distance(a, c) >= distance(b, d)) {
            markFlatLine(a, b, c, d);
        } else {
            markSteepLine(a, b, c, d);
        }
    }

    private void markFlatLine(int a, int b, int c, int d) {
        int last = greater(a, c);
        for (int x = smaller(a, c); x <= last; x++) {
            int y = nearestOnLine(x, a, b, c, d);
            mark(x, y);
        }
    }

    private void markSteepLine(int a, int b, int c, int d) {
        int last = greater(b, d);
        for (int y = smaller(b, d); y <= last; y++) {
            int x = nearestOnLine(y, b, a, d, c);
            mark(x, y);
        }
    }

    // Measured from the end with the smaller v: the quotient is then never
    // negative, so that Java's division rounds a tie to the smaller v whichever
    // way the line runs.
    private static int nearestOnLine(int u, int fromU, int fromV, int toU, int toV) {
        int length = distance(fromU, toU);
        if (length == 0) {
            return fromV;
        }
        int lowU = fromV <= toV ? fromU : toU;
        int lowV = smaller(fromV, toV);
        int rise = distance(u, lowU) * distance(fromV, toV);
        return lowV + (2 * rise + length - 1) / (2 * length);
    }

    private void markDisc(int middle, int r) {
        int a = columnOf(middle);
        int b = rowOf(middle);
        for (int y = 0; y < SIDE; y++) {
            for (int x = 0; x < SIDE; x++) {
                if ((x - a) * (x - a) + (y - b) * (y - b) <= r * r) {
                    mark(x, y);
                }
            }
        }
    }

    private void markRing(int middle, int r) {
        int a = columnOf(middle);
        int b = rowOf(middle);
        for (int u = -r; u <= r; u++) {
            int v = nearestRoot(r * r - u * u);
            if (distance(u, 0) <= v) {
                mark(a + u, b + v);
                mark(a + u, b - v);
                mark(a + v, b + u);
                mark(a - v, b + u);
            }
        }
    }

    // v is nearest to the root of a whole n when v - 1/2 < root < v + 1/2; in
    // whole numbers the upper half of that is n <= v * (v + 1).
    private static int nearestRoot(int n) {
        int v = 0;
        while (v < MAX_RADIUS && v * (v + 1) < n) {
            v++;
        }
        return v;
    }

    // A radius of 0 needs no case of its own: by the document's formula the blot
    // is then a whole column, a whole row, or (both 0) the whole raster.
    private void markBlot(int middle, int p, int q) {
        int a = columnOf(middle);
        int b = rowOf(middle);
        for (int y = 0; y < SIDE; y++) {
            for (int x = 0; x < SIDE; x++) {
                int across = q * q * (x - a) * (x - a);
                int down = p * p * (y - b) * (y - b);
                if (across + down <= p * p * q * q) {
                    mark(x, y);
                }
            }
        }
    }

    private void markTriangle(int first, int second, int third) {
        for (int y = 0; y < SIDE; y++) {
            for (int x = 0; x < SIDE; x++) {
                if (isInBox(first, second, third, x, y) && isOnOneSide(first, second, third, x, y)) {
                    mark(x, y);
                }
            }
        }
    }

    // If the three points are on one straight line, isOnOneSide lets every point
    // of that line through; the box cuts it down to the stretch that they span.
    private static boolean isInBox(int first, int second, int third, int x, int y) {
        int a = columnOf(first);
        int b = columnOf(second);
        int c = columnOf(third);
        int d = rowOf(first);
        int e = rowOf(second);
        int f = rowOf(third);
        return isSpanned(a, b, c, x) && isSpanned(d, e, f, y);
    }

    private static boolean isSpanned(int a, int b, int c, int value) {
        boolean below = value < a && value < b && value < c;
        boolean above = value > a && value > b && value > c;
        return !below && !above;
    }

    private static boolean isOnOneSide(int first, int second, int third, int x, int y) {
        int s = turn(first, second, x, y);
        int t = turn(second, third, x, y);
        int u = turn(third, first, x, y);
        return (s >= 0 && t >= 0 && u >= 0) || (s <= 0 && t <= 0 && u <= 0);
    }

    // Its sign tells on which side of the way between two pixels (x, y) lies.
    private static int turn(int from, int to, int x, int y) {
        int a = columnOf(from);
        int b = rowOf(from);
        int c = columnOf(to);
        int d = rowOf(to);
        return (c - a) * (y - b) - (d - b) * (x - a);
    }

    private void reachNeighbours(int pixel, int value) {
        int x = columnOf(pixel);
        int y = rowOf(pixel);
        reach(x - 1, y, value);
        reach(x + 1, y, value);
        reach(x, y - 1, value);
        reach(x, y + 1, value);
    }

    // A pixel is turned over as soon as it is reached: it has the value no more,
    // so it is queued once only, and the queue has room for all.
    private void reach(int x, int y, int value) {
        if (!isOnSide(x) || !isOnSide(y) || queued >= PIXELS) {
            return;
        }
        if (((rows[y] >> x) & 1) == value) {
            rows[y] ^= 1 << x;
            queue[queued] = (y << NUMBER_SHIFT) + x;
            queued++;
        }
    }
}
