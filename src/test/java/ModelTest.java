import java.util.function.LongSupplier;

/**
 * Long runs of mixed calls, each answer held against a second, slower telling
 * of the document (Model). The calls come from a fixed sequence of numbers, so
 * every run of this test does the same.
 */
public final class ModelTest {
    private static final int MIXED_RUNS = 60;
    private static final int MAZE_RUNS = 12;
    private static final int CALLS = 512;
    private static final int[] ODD_NUMBERS = {Integer.MIN_VALUE, -82, -10, -1, 10, 81, 90, Integer.MAX_VALUE};
    private static final int[] CORNERS = {0, 8, 72, 80};

    private static final Check check = new Check();
    private static long state = 20261115L;

    private static long longestDrive = 0;
    private static long mostMoves = 0;

    public static void main(String[] args) {
        for (int run = 0; run < MIXED_RUNS && check.wrong() == 0; run++) {
            check.part("mixed run " + run);
            // Runs differ in how crowded the grid gets.
            mixedRun(new CostmapNavigator(), new Model(), run % 5);
        }
        for (int run = 0; run < MAZE_RUNS && check.wrong() == 0; run++) {
            check.part("maze run " + run);
            mazeRun(new CostmapNavigator(), new Model(), run % 2);
        }
        // Else the runs would have stopped short of what they are made for.
        check.due("the longest drive of all runs", longestDrive, 40);
        check.due("a way of more than 40 moves among all runs", mostMoves > 40, true);
        check.end();
    }

    private static void mixedRun(CostmapNavigator x, Model m, int crowd) {
        for (int call = 0; call < CALLS && check.wrong() == 0; call++) {
            if (number(3) == 0) {
                changingCall(x, m, crowd);
            } else {
                askingCall(x, m);
            }
        }
    }

    /** Mixed calls in a maze that is seldom changed, since ways by chance alone stay far below 40 moves. */
    private static void mazeRun(CostmapNavigator x, Model m, int down) {
        int walls = 4;
        for (int wall = 0; wall < walls; wall++) {
            layWall(x, m, down, wall);
        }
        for (int call = walls; call < CALLS && check.wrong() == 0; call++) {
            int kind = number(60);
            if (kind == 0) {
                changingCall(x, m, 2);
            } else if (kind < 20) {
                travellingCall(x, m);
            } else {
                askingCall(x, m);
            }
        }
    }

    /** Blocks every second row or column but for its first or last cell, by turns. */
    private static void layWall(CostmapNavigator x, Model m, int down, int wall) {
        int line = 2 * wall + 1;
        int first = wall % 2;
        int c = down == 0 ? 9 * line + first : 9 * first + line;
        same("wall(" + c + ", " + down + ", 8)", () -> x.wall(c, down, 8), () -> m.wall(c, down, 8));
    }

    /** The robot or the goal often goes to a corner, so that the ways between them are long. */
    private static void travellingCall(CostmapNavigator x, Model m) {
        int c = number(2) == 0 ? CORNERS[number(CORNERS.length)] : cell();
        int r = number(4);
        int g = number(10);
        int steps = 1 + number(60);
        switch (number(6)) {
            case 0 -> same("tune(" + r + ", " + g + ")", () -> x.tune(r, g), () -> m.tune(r, g));
            case 1, 2 -> same("place(" + c + ")", () -> x.place(c), () -> m.place(c));
            case 3 -> same("goal(" + c + ")", () -> x.goal(c), () -> m.goal(c));
            default -> driven(x, m, steps);
        }
    }

    private static void changingCall(CostmapNavigator x, Model m, int crowd) {
        int c = cell();
        int on = number(5) < crowd ? number(3) - 1 : 0;
        int down = number(4) - 1;
        int n = number(30) == 0 ? odd() : number(5) < crowd ? number(10) : -number(10);
        int r = number(20) == 0 ? odd() : number(5) - (number(9) == 0 ? 1 : 0);
        int g = number(20) == 0 ? odd() : number(11);
        int steps = number(10) == 0 ? odd() : number(20) - 1;
        switch (number(8)) {
            case 0, 1 -> same("block(" + c + ", " + on + ")", () -> x.block(c, on), () -> m.block(c, on));
            case 2, 3 -> same("wall(" + c + ", " + down + ", " + n + ")",
                    () -> x.wall(c, down, n), () -> m.wall(c, down, n));
            case 4 -> same("tune(" + r + ", " + g + ")", () -> x.tune(r, g), () -> m.tune(r, g));
            case 5 -> same("place(" + c + ")", () -> x.place(c), () -> m.place(c));
            case 6 -> same("goal(" + c + ")", () -> x.goal(c), () -> m.goal(c));
            default -> driven(x, m, steps);
        }
    }

    private static void askingCall(CostmapNavigator x, Model m) {
        int c = cell();
        switch (number(10)) {
            case 0 -> same("blocked(" + c + ")", () -> x.blocked(c) ? 1 : 0, () -> m.blocked(c) ? 1 : 0);
            case 1 -> same("clearance(" + c + ")", () -> x.clearance(c), () -> m.clearance(c));
            case 2 -> same("cost(" + c + ")", () -> x.cost(c), () -> m.cost(c));
            case 3 -> same("distance()", x::distance, () -> m.distanceFrom(m.robot));
            case 4 -> same("distanceFrom(" + c + ")", () -> x.distanceFrom(c), () -> m.distanceFrom(c));
            case 5 -> same("next()", x::next, () -> m.next(m.robot));
            case 6 -> same("where()", x::where, () -> m.robot);
            case 7 -> mostMoves = Math.max(mostMoves, same("moves()", x::moves, m::moves));
            case 8 -> same("reached()", x::reached, m::reached);
            default -> same("farthest()", x::farthest, m::farthest);
        }
    }

    private static void driven(CostmapNavigator x, Model m, int steps) {
        long done = same("drive(" + steps + ")", () -> x.drive(steps), () -> m.drive(steps));
        longestDrive = Math.max(longestDrive, done);
    }

    private static long same(String call, LongSupplier got, LongSupplier want) {
        long answer = want.getAsLong();
        check.due(call, got.getAsLong(), answer);
        return answer;
    }

    private static int cell() {
        return number(25) == 0 ? odd() : number(81);
    }

    private static int odd() {
        return ODD_NUMBERS[number(ODD_NUMBERS.length)];
    }

    private static int number(int below) {
        state ^= state << 13;
        state ^= state >>> 7;
        state ^= state << 17;
        return (int) Long.remainderUnsigned(state, below);
    }
}
