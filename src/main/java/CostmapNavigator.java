/**
 * A robot on a grid with obstacles that come and go: what each cell costs by
 * its nearness to obstacles, the cheapest ways to the goal, the next move.
 */
public final class CostmapNavigator {
    public static final int BAD_ARG = -1;
    public static final int NONE = -4;

    private static final int SIDE = 9;
    private static final int CELLS = 81;
    private static final int OPEN_CLEARANCE = 9;
    private static final int GREATEST_RADIUS = 3;
    private static final int GREATEST_GAIN = 9;
    private static final int LONGEST_WALL = 9;
    private static final int LONGEST_DRIVE = 40;
    private static final int DIRECTIONS = 4;
    private static final int UP = 0;
    private static final int RIGHT = 1;
    private static final int DOWN = 2;

    private final boolean[] obstacles = new boolean[CELLS];

    // Both are filled anew by measure() before they are read, so that no
    // change of the grid, the tuning or the goal can leave them stale.
    private final int[] costs = new int[CELLS];
    private final int[] distances = new int[CELLS];

    private int robotCell;
    private int goalCell;
    private int radius;
    private int gain;

    public CostmapNavigator() {
        robotCell = 0;
        goalCell = CELLS - 1;
        radius = 1;
        gain = 3;
    }

    public int block(int c, int on) {
        if (!inGrid(c)) {
            return BAD_ARG;
        }
        int before = obstacles[c] ? 1 : 0;
        obstacles[c] = on != 0;
        return before;
    }

    public int wall(int c, int down, int n) {
        if (!inGrid(c) || n < -LONGEST_WALL || n > LONGEST_WALL) {
            return BAD_ARG;
        }
        boolean on = n > 0;
        int wanted = on ? n : -n;
        int room = down != 0 ? SIDE - c / SIDE : SIDE - c % SIDE;
        int length = wanted < room ? wanted : room;
        int step = down != 0 ? SIDE : 1;
        int changed = 0;
        for (int i = 0; i < length; i++) {
            int cell = c + i * step;
            if (obstacles[cell] != on) {
                obstacles[cell] = on;
                changed++;
            }
        }
        return changed;
    }

    public int tune(int r, int g) {
        if (r < 0 || r > GREATEST_RADIUS || g < 0 || g > GREATEST_GAIN) {
            return BAD_ARG;
        }
        radius = r;
        gain = g;
        return 0;
    }

    public int place(int c) {
        if (!inGrid(c)) {
            return BAD_ARG;
        }
        int before = robotCell;
        robotCell = c;
        return before;
    }

    public int goal(int c) {
        if (!inGrid(c)) {
            return BAD_ARG;
        }
        int before = goalCell;
        goalCell = c;
        return before;
    }

    public boolean blocked(int c) {
        return inGrid(c) && obstacles[c];
    }

    public int clearance(int c) {
        return inGrid(c) ? clearanceOf(c) : BAD_ARG;
    }

    public int cost(int c) {
        return inGrid(c) ? costOf(c) : BAD_ARG;
    }

    public int distance() {
        measure();
        return distances[robotCell];
    }

    public int distanceFrom(int c) {
        if (!inGrid(c)) {
            return BAD_ARG;
        }
        measure();
        return distances[c];
    }

    public int next() {
        measure();
        return directionFrom(robotCell);
    }

    public int drive(int n) {
        measure();
        int limit = n < LONGEST_DRIVE ? n : LONGEST_DRIVE;
        int done = 0;
        for (int i = 0; i < limit; i++) {
            int direction = directionFrom(robotCell);
            if (direction == NONE) {
                break;
            }
            robotCell = neighbour(robotCell, direction);
            done++;
        }
        return done;
    }

    public int where() {
        return robotCell;
    }

    public int moves() {
        measure();
        if (distances[robotCell] == NONE) {
            return NONE;
        }
        int cell = robotCell;
        int done = 0;
        // Every cost is 1 or more, so each move lessens the distance and no
        // cell comes twice: fewer moves than cells always suffice.
        for (int i = 0; i < CELLS; i++) {
            int direction = directionFrom(cell);
            if (direction == NONE) {
                break;
            }
            cell = neighbour(cell, direction);
            done++;
        }
        return done;
    }

    public int reached() {
        measure();
        int count = 0;
        for (int c = 0; c < CELLS; c++) {
            if (distances[c] != NONE) {
                count++;
            }
        }
        return count;
    }

    public int farthest() {
        measure();
        // NONE is less than every distance, so it remains only if there is none.
        int greatest = NONE;
        for (int c = 0; c < CELLS; c++) {
            if (distances[c] > greatest) {
                greatest = distances[c];
            }
        }
        return greatest;
    }

    private static boolean inGrid(int c) {
        return c >= 0 && c < CELLS;
    }

    /** The greater of the differences of x and of y. */
    private static int span(int a, int b) {
        int dx = a % SIDE - b % SIDE;
        int dy = a / SIDE - b / SIDE;
        int width = dx < 0 ? -dx : dx;
        int height = dy < 0 ? -dy : dy;
        return width > height ? width : height;
    }

    /** The cell that a move leads to, NONE if it would leave the grid. */
    private static int neighbour(int c, int direction) {
        int x = c % SIDE;
        int y = c / SIDE;
        if (direction == UP) {
            return y > 0 ? c - SIDE : NONE;
        }
        if (direction == RIGHT) {
            return x < SIDE - 1 ? c + 1 : NONE;
        }
        if (direction == DOWN) {
            return y < SIDE - 1 ? c + SIDE : NONE;
        }
        return x > 0 ? c - 1 : NONE;
    }

    /** A blocked cell is its own nearest obstacle, which gives the 0 due there. */
    private int clearanceOf(int c) {
        int least = OPEN_CLEARANCE;
        for (int other = 0; other < CELLS; other++) {
            if (obstacles[other]) {
                int apart = span(c, other);
                if (apart < least) {
                    least = apart;
                }
            }
        }
        return least;
    }

    private int costOf(int c) {
        if (obstacles[c]) {
            return NONE;
        }
        int clear = clearanceOf(c);
        return clear > radius ? 1 : 1 + gain * (radius + 1 - clear);
    }

    private void measure() {
        for (int c = 0; c < CELLS; c++) {
            costs[c] = costOf(c);
            distances[c] = NONE;
        }
        if (obstacles[goalCell]) {
            return;
        }
        distances[goalCell] = 0;
        // A cheapest way has at most CELLS - 1 moves, and each round settles at
        // least one move more of every cheapest way, counted from the goal.
        boolean changed = true;
        for (int round = 0; round < CELLS && changed; round++) {
            changed = improveAll();
        }
    }

    private boolean improveAll() {
        boolean changed = false;
        for (int c = 0; c < CELLS; c++) {
            if (!obstacles[c] && improve(c)) {
                changed = true;
            }
        }
        return changed;
    }

    private boolean improve(int c) {
        boolean changed = false;
        for (int direction = 0; direction < DIRECTIONS; direction++) {
            int price = priceThrough(c, direction);
            if (price != NONE && (distances[c] == NONE || price < distances[c])) {
                distances[c] = price;
                changed = true;
            }
        }
        return changed;
    }

    /** The least known price of a way from c that begins in the direction. */
    private int priceThrough(int c, int direction) {
        int to = neighbour(c, direction);
        if (to == NONE || distances[to] == NONE) {
            return NONE;
        }
        return costs[to] + distances[to];
    }

    /**
     * The least direction that begins a cheapest way from c, NONE if there is
     * none. Its move stays in the grid, since priceThrough answers NONE, which is
     * no distance, for one that would leave it.
     */
    private int directionFrom(int c) {
        if (c == goalCell || distances[c] == NONE) {
            return NONE;
        }
        for (int direction = 0; direction < DIRECTIONS; direction++) {
            int price = priceThrough(c, direction);
            if (price == distances[c]) {
                return direction;
            }
        }
        return NONE;
    }
}
