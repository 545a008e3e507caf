import java.math.BigInteger;

/**
 * The document's words over a plain table, by other ways than the program's where there are any.
 * It takes valid arguments only.
 */
final class Model {
    static final int SIDE = 24;
    private final boolean[][] on = new boolean[SIDE][SIDE];
    private boolean[][] figure = new boolean[SIDE][SIDE];
    private int pen = 0;

    void pen(int p) {
        pen = p;
    }

    int get(int pixel) {
        return on[pixel / 32][pixel % 32] ? 1 : 0;
    }

    int row(int y) {
        int bits = 0;
        for (int x = SIDE - 1; x >= 0; x--) {
            bits = 2 * bits + (on[y][x] ? 1 : 0);
        }
        return bits;
    }

    int count() {
        int sum = 0;
        for (boolean[] row : on) {
            for (boolean pixel : row) {
                sum += pixel ? 1 : 0;
            }
        }
        return sum;
    }

    int line(int from, int to) {
        figure = new boolean[SIDE][SIDE];
        int a = from % 32, b = from / 32, c = to % 32, d = to / 32;
        if (Math.abs(a - c) >= Math.abs(b - d)) {
            for (int x = Math.min(a, c); x <= Math.max(a, c); x++) {
                figure[nearest(x, a, b, c, d)][x] = true;
            }
        } else {
            for (int y = Math.min(b, d); y <= Math.max(b, d); y++) {
                figure[y][nearest(y, b, a, d, c)] = true;
            }
        }
        return draw();
    }

    /** Tries every v; a later one must be strictly nearer, so of two equally near ones the smaller stays. */
    private static int nearest(int u, int a, int b, int c, int d) {
        if (a == c) {
            return b;
        }
        int best = 0;
        for (int v = 1; v < SIDE; v++) {
            if (gap(v, u, a, b, c, d) < gap(best, u, a, b, c, d)) {
                best = v;
            }
        }
        return best;
    }

    /** The distance of v from the exact line at u, times the line's length. */
    private static int gap(int v, int u, int a, int b, int c, int d) {
        return Math.abs((v - b) * (c - a) - (u - a) * (d - b));
    }

    int disc(int middle, int r) {
        figure = new boolean[SIDE][SIDE];
        int a = middle % 32, b = middle / 32;
        for (int v = -r; v <= r; v++) {
            for (int u = -r; u <= r; u++) {
                if (u * u + v * v <= r * r) {
                    put(a + u, b + v);
                }
            }
        }
        return draw();
    }

    int ring(int middle, int r) {
        figure = new boolean[SIDE][SIDE];
        int a = middle % 32, b = middle / 32;
        for (int u = -r; u <= r; u++) {
            for (int v = -r - 1; v <= r + 1; v++) {
                if (Math.abs(u) <= Math.abs(v) && Math.abs(v) == Math.round(Math.sqrt(r * r - u * u))) {
                    put(a + u, b + v);
                    put(a + v, b + u);
                }
            }
        }
        return draw();
    }

    int blot(int middle, int p, int q) {
        figure = new boolean[SIDE][SIDE];
        int a = middle % 32, b = middle / 32;
        for (int y = 0; y < SIDE; y++) {
            for (int x = 0; x < SIDE; x++) {
                long left = (long) Math.pow(q * (x - a), 2) + (long) Math.pow(p * (y - b), 2);
                if (left <= (long) p * p * q * q) {
                    put(x, y);
                }
            }
        }
        return draw();
    }

    /** A point is in a triangle if the three that it makes with the sides fill no more than the triangle. */
    int triangle(int first, int second, int third) {
        figure = new boolean[SIDE][SIDE];
        int whole = area(first, second, third);
        for (int y = 0; y < SIDE; y++) {
            for (int x = 0; x < SIDE; x++) {
                int point = 32 * y + x;
                boolean in = whole == 0
                    ? onStretch(first, second, point) || onStretch(second, third, point) || onStretch(third, first, point)
                    : area(first, second, point) + area(second, third, point) + area(third, first, point) == whole;
                if (in) {
                    put(x, y);
                }
            }
        }
        return draw();
    }

    private static int area(int f, int g, int h) {
        int a = f % 32, b = f / 32, c = g % 32, d = g / 32, e = h % 32, k = h / 32;
        return Math.abs(a * (d - k) + c * (k - b) + e * (b - d));
    }

    /** A point is on a stretch if it is a whole number of the stretch's least whole steps away from its start. */
    private static boolean onStretch(int from, int to, int point) {
        int a = from % 32, b = from / 32, c = to % 32 - a, d = to / 32 - b;
        int steps = BigInteger.valueOf(c).gcd(BigInteger.valueOf(d)).intValue();
        for (int i = 0; i <= steps; i++) {
            int x = a + (steps == 0 ? 0 : i * (c / steps));
            int y = b + (steps == 0 ? 0 : i * (d / steps));
            if (point == 32 * y + x) {
                return true;
            }
        }
        return false;
    }

    /** Grows the region by sweeps over the whole raster until one finds nothing new. */
    int flood(int pixel) {
        boolean value = get(pixel) == 1;
        boolean[][] in = new boolean[SIDE][SIDE];
        in[pixel / 32][pixel % 32] = true;
        for (boolean grown = true; grown;) {
            grown = false;
            for (int y = 0; y < SIDE; y++) {
                for (int x = 0; x < SIDE; x++) {
                    boolean next = x > 0 && in[y][x - 1] || x < SIDE - 1 && in[y][x + 1]
                        || y > 0 && in[y - 1][x] || y < SIDE - 1 && in[y + 1][x];
                    if (!in[y][x] && on[y][x] == value && next) {
                        in[y][x] = true;
                        grown = true;
                    }
                }
            }
        }
        int sum = 0;
        for (int y = 0; y < SIDE; y++) {
            for (int x = 0; x < SIDE; x++) {
                if (in[y][x]) {
                    on[y][x] = !value;
                    sum++;
                }
            }
        }
        return sum;
    }

    int move(int dx, int dy) {
        boolean[][] old = new boolean[SIDE][];
        for (int y = 0; y < SIDE; y++) {
            old[y] = on[y].clone();
            on[y] = new boolean[SIDE];
        }
        int lost = 0;
        for (int y = 0; y < SIDE; y++) {
            for (int x = 0; x < SIDE; x++) {
                boolean stays = x + dx >= 0 && x + dx < SIDE && y + dy >= 0 && y + dy < SIDE;
                if (old[y][x] && stays) {
                    on[y + dy][x + dx] = true;
                } else if (old[y][x]) {
                    lost++;
                }
            }
        }
        return lost;
    }

    private void put(int x, int y) {
        if (x >= 0 && x < SIDE && y >= 0 && y < SIDE) {
            figure[y][x] = true;
        }
    }

    private int draw() {
        int changed = 0;
        for (int y = 0; y < SIDE; y++) {
            for (int x = 0; x < SIDE; x++) {
                if (figure[y][x] && (pen == 2 || on[y][x] == (pen == 1))) {
                    on[y][x] = !on[y][x];
                    changed++;
                }
            }
        }
        return changed;
    }
}
