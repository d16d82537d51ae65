/** New objects in states that several tests need, each made with few calls. */
final class Grids {
    private Grids() {
    }

    static CostmapNavigator of(int robot, int goal, int... blockedCells) {
        CostmapNavigator x = new CostmapNavigator();
        x.place(robot);
        x.goal(goal);
        for (int c : blockedCells) {
            x.block(c, 1);
        }
        return x;
    }

    /** Every cell blocked. */
    static CostmapNavigator full() {
        CostmapNavigator x = new CostmapNavigator();
        for (int row = 0; row < 9; row++) {
            x.wall(9 * row, 0, 9);
        }
        return x;
    }

    /** Column 4 blocked between the robot on cell 0 and the goal, cell 80. */
    static CostmapNavigator halves() {
        CostmapNavigator x = new CostmapNavigator();
        x.wall(4, 1, 9);
        return x;
    }

    /** An obstacle on the upper edge makes the straight way along row 1 cost 35, one by row 2 cost 10. */
    static CostmapNavigator detour() {
        CostmapNavigator x = of(9, 17, 4);
        x.tune(1, 9);
        return x;
    }

    /** Walls that leave one way of 48 moves from cell 0 to cell 80, every cell at clearance 1. */
    static CostmapNavigator snake() {
        CostmapNavigator x = new CostmapNavigator();
        x.wall(9, 0, 8);
        x.wall(28, 0, 8);
        x.wall(45, 0, 8);
        x.wall(64, 0, 8);
        return x;
    }
}
