/** The document told a second time, by rows and columns and without regard to speed. */
final class Model {
    private static final int BAD_ARG = -1;
    private static final int NONE = -4;
    private static final int[] DX = {0, 1, 0, -1};
    private static final int[] DY = {-1, 0, 1, 0};

    int robot = 0;
    private int goal = 80;
    private int radius = 1;
    private int gain = 3;
    private final boolean[][] full = new boolean[9][9];

    int block(int c, int on) {
        if (c < 0 || c > 80) {
            return BAD_ARG;
        }
        boolean before = full[c / 9][c % 9];
        full[c / 9][c % 9] = on != 0;
        return before ? 1 : 0;
    }

    int wall(int c, int down, int n) {
        if (c < 0 || c > 80 || n < -9 || n > 9) {
            return BAD_ARG;
        }
        int changed = 0;
        int x = c % 9;
        int y = c / 9;
        for (int left = Math.abs(n); left > 0 && x < 9 && y < 9; left--) {
            changed += full[y][x] == (n > 0) ? 0 : 1;
            full[y][x] = n > 0;
            x += down == 0 ? 1 : 0;
            y += down == 0 ? 0 : 1;
        }
        return changed;
    }

    int tune(int r, int g) {
        if (r < 0 || r > 3 || g < 0 || g > 9) {
            return BAD_ARG;
        }
        radius = r;
        gain = g;
        return 0;
    }

    int place(int c) {
        if (c < 0 || c > 80) {
            return BAD_ARG;
        }
        int before = robot;
        robot = c;
        return before;
    }

    int goal(int c) {
        if (c < 0 || c > 80) {
            return BAD_ARG;
        }
        int before = goal;
        goal = c;
        return before;
    }

    boolean blocked(int c) {
        return c >= 0 && c <= 80 && full[c / 9][c % 9];
    }

    /** Looks at ever greater squares round the cell until one holds an obstacle. */
    int clearance(int c) {
        if (c < 0 || c > 80) {
            return BAD_ARG;
        }
        for (int size = 0; size < 9; size++) {
            for (int y = Math.max(0, c / 9 - size); y <= Math.min(8, c / 9 + size); y++) {
                for (int x = Math.max(0, c % 9 - size); x <= Math.min(8, c % 9 + size); x++) {
                    if (full[y][x]) {
                        return size;
                    }
                }
            }
        }
        return 9;
    }

    int cost(int c) {
        if (c < 0 || c > 80) {
            return BAD_ARG;
        }
        if (blocked(c)) {
            return NONE;
        }
        return 1 + gain * Math.max(0, radius + 1 - clearance(c));
    }

    /** Dijkstra's search forward from the cell, so that each asked cell has a search of its own. */
    int distanceFrom(int c) {
        if (c < 0 || c > 80) {
            return BAD_ARG;
        }
        int[] price = new int[81];
        boolean[] done = new boolean[81];
        java.util.Arrays.fill(price, Integer.MAX_VALUE);
        if (!blocked(c)) {
            price[c] = 0;
        }
        for (int at = cheapest(price, done); at >= 0; at = cheapest(price, done)) {
            if (at == goal) {
                return price[at];
            }
            done[at] = true;
            for (int d = 0; d < 4; d++) {
                int to = after(at, d);
                if (to >= 0 && !blocked(to)) {
                    price[to] = Math.min(price[to], price[at] + cost(to));
                }
            }
        }
        return NONE;
    }

    private static int cheapest(int[] price, boolean[] done) {
        int best = -1;
        for (int c = 0; c < 81; c++) {
            if (!done[c] && price[c] != Integer.MAX_VALUE && (best < 0 || price[c] < price[best])) {
                best = c;
            }
        }
        return best;
    }

    private static int after(int c, int d) {
        int x = c % 9 + DX[d];
        int y = c / 9 + DY[d];
        return x < 0 || x > 8 || y < 0 || y > 8 ? -1 : 9 * y + x;
    }

    int next(int from) {
        int whole = distanceFrom(from);
        if (whole == NONE || from == goal) {
            return NONE;
        }
        for (int d = 0; d < 4; d++) {
            int to = after(from, d);
            if (to >= 0 && !blocked(to)) {
                int rest = distanceFrom(to);
                if (rest != NONE && cost(to) + rest == whole) {
                    return d;
                }
            }
        }
        throw new IllegalStateException("a way without a first move");
    }

    int drive(int n) {
        int done = 0;
        int direction = next(robot);
        while (done < n && done < 40 && direction != NONE) {
            robot = after(robot, direction);
            direction = next(robot);
            done++;
        }
        return done;
    }

    int moves() {
        if (distanceFrom(robot) == NONE) {
            return NONE;
        }
        int done = 0;
        for (int at = robot; at != goal; at = after(at, next(at))) {
            done++;
        }
        return done;
    }

    int reached() {
        int count = 0;
        for (int c = 0; c < 81; c++) {
            count += distanceFrom(c) != NONE ? 1 : 0;
        }
        return count;
    }

    int farthest() {
        int greatest = NONE;
        for (int c = 0; c < 81; c++) {
            greatest = Math.max(greatest, distanceFrom(c));
        }
        return greatest;
    }
}
