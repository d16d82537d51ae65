/** The boundary cases of promises 1 to 6, each sentence with a test of its own. */
public final class ChangesBoundariesTest {
    private static final int BAD_ARG = Edges.BAD_ARG;
    private static final int NONE = Edges.NONE;
    private static final int LEAST = Edges.LEAST;
    private static final int GREATEST = Edges.GREATEST;
    private static final int[] ENDS = {0, 80};

    private static final Check check = new Check();

    public static void main(String[] args) {
        newObject();
        block();
        wall();
        tune();
        place();
        goal();
        check.end();
    }

    private static void newObject() {
        String section = "Promise 1";
        check.sentence(section, "No cell is blocked", ChangesBoundariesTest::newIsEmpty);
        check.sentence(section, "the robot stands on cell 0, the goal is cell 80",
                ChangesBoundariesTest::newRobotAndGoal);
        check.sentence(section, "R is 1 and g is 3", ChangesBoundariesTest::newRadiusAndGain);
    }

    private static void block() {
        String section = "Promise 2";
        check.sentence(section, "Cell c becomes blocked (on not 0) or free (on 0)",
                ChangesBoundariesTest::blockByOn);
        check.sentence(section, "BAD_ARG if c is not 0 to 80", ChangesBoundariesTest::blockRefuses);
        check.sentence(section, "Otherwise 1 if it was blocked before, else 0",
                ChangesBoundariesTest::blockAnswersBefore);
    }

    private static void wall() {
        String section = "Promise 3";
        check.sentence(section, "The n cells from c on to the right (down = 0)",
                ChangesBoundariesTest::wallToTheRight);
        check.sentence(section, "or below (down not 0)", ChangesBoundariesTest::wallBelow);
        check.sentence(section, "as far as they are in the grid", ChangesBoundariesTest::wallAtTheEdge);
        check.sentence(section, "become blocked (n > 0)", ChangesBoundariesTest::wallOfNoneAndOne);
        check.sentence(section, "for n < 0, the -n such cells become free", ChangesBoundariesTest::wallFrees);
        check.sentence(section, "BAD_ARG if c is not 0 to 80", ChangesBoundariesTest::wallRefusesCells);
        check.sentence(section, "or n not -9 to 9", ChangesBoundariesTest::wallRefusesLengths);
        check.sentence(section, "Otherwise how many cells changed", ChangesBoundariesTest::wallCounts);
    }

    private static void tune() {
        String section = "Promise 4";
        check.sentence(section, "R and g become these", ChangesBoundariesTest::tuneToTheEnds);
        check.sentence(section, "BAD_ARG if r is not 0 to 3", ChangesBoundariesTest::tuneRefusesRadii);
        check.sentence(section, "or g not 0 to 9", ChangesBoundariesTest::tuneRefusesGains);
        check.sentence(section, "Otherwise 0", ChangesBoundariesTest::tuneAnswersZero);
    }

    private static void place() {
        String section = "Promise 5";
        check.sentence(section, "The robot stands on cell c", ChangesBoundariesTest::placeOnTheEnds);
        check.sentence(section, "BAD_ARG if c is not 0 to 80", ChangesBoundariesTest::placeRefuses);
        check.sentence(section, "Otherwise the cell before", ChangesBoundariesTest::placeAnswersBefore);
    }

    private static void goal() {
        String section = "Promise 6";
        check.sentence(section, "The goal becomes cell c", ChangesBoundariesTest::goalOnTheEnds);
        check.sentence(section, "BAD_ARG if c is not 0 to 80", ChangesBoundariesTest::goalRefuses);
        check.sentence(section, "Otherwise the goal before", ChangesBoundariesTest::goalAnswersBefore);
    }

    private static void newIsEmpty() {
        check.dueBlocked(new CostmapNavigator());
        check.due("reached()", new CostmapNavigator().reached(), 81);
        CostmapNavigator other = Grids.full();
        check.dueBlocked(new CostmapNavigator());
        check.due("the full object's reached()", other.reached(), 0);
    }

    private static void newRobotAndGoal() {
        check.due("where()", new CostmapNavigator().where(), 0);
        check.due("place(5)", new CostmapNavigator().place(5), 0);
        check.due("goal(5)", new CostmapNavigator().goal(5), 80);
        check.due("distanceFrom(80)", new CostmapNavigator().distanceFrom(80), 0);
        check.due("distanceFrom(79)", new CostmapNavigator().distanceFrom(79), 1);
    }

    private static void newRadiusAndGain() {
        CostmapNavigator x = new CostmapNavigator();
        x.block(40, 1);
        check.due("cost(41), clearance 1", x.cost(41), 4);
        check.due("cost(42), clearance 2", x.cost(42), 1);
    }

    private static void blockByOn() {
        CostmapNavigator x = new CostmapNavigator();
        for (int c : ENDS) {
            for (int on : Edges.NOT_ZERO) {
                x.block(c, 0);
                check.due("blocked(" + c + ") after on 0", x.blocked(c), false);
                x.block(c, on);
                check.due("blocked(" + c + ") after on " + on, x.blocked(c), true);
                x.block(c, on);
                check.due("blocked(" + c + ") after on " + on + " twice", x.blocked(c), true);
            }
            x.block(c, 0);
            x.block(c, 0);
            check.due("blocked(" + c + ") after on 0 twice", x.blocked(c), false);
        }
    }

    private static void blockRefuses() {
        for (int c : ENDS) {
            CostmapNavigator x = new CostmapNavigator();
            check.due("block(" + c + ", 1)", x.block(c, 1), 0);
            check.dueBlocked(x, c);
            check.due("block(" + c + ", 0)", x.block(c, 0), 1);
            check.dueBlocked(x);
        }
        for (int c : Edges.NO_CELLS) {
            CostmapNavigator x = Grids.of(0, 80, 0, 80);
            for (int on : new int[] {0, 1, LEAST, GREATEST}) {
                check.due("block(" + c + ", " + on + ")", x.block(c, on), BAD_ARG);
            }
            check.dueBlocked(x, 0, 80);
        }
    }

    private static void blockAnswersBefore() {
        CostmapNavigator x = new CostmapNavigator();
        for (int c : ENDS) {
            check.due("free to free", x.block(c, 0), 0);
            check.due("free to blocked", x.block(c, LEAST), 0);
            check.due("blocked to blocked", x.block(c, GREATEST), 1);
            check.due("blocked to free", x.block(c, 0), 1);
        }
    }

    private static void wallToTheRight() {
        CostmapNavigator x = new CostmapNavigator();
        check.due("wall(36, 0, 9), a whole row", x.wall(36, 0, 9), 9);
        check.dueBlocked(x, 36, 37, 38, 39, 40, 41, 42, 43, 44);
        check.due("wall(0, 0, 1)", x.wall(0, 0, 1), 1);
        check.dueBlocked(x, 0, 36, 37, 38, 39, 40, 41, 42, 43, 44);
    }

    private static void wallBelow() {
        for (int down : Edges.NOT_ZERO) {
            CostmapNavigator x = new CostmapNavigator();
            check.due("wall(4, " + down + ", 9), a whole column", x.wall(4, down, 9), 9);
            check.dueBlocked(x, 4, 13, 22, 31, 40, 49, 58, 67, 76);
            check.due("wall(4, " + down + ", -9)", x.wall(4, down, -9), 9);
            check.dueBlocked(x);
        }
    }

    /** From every cell: walls that just reach the edge, that end one cell before it, and that would pass it. */
    private static void wallAtTheEdge() {
        for (int c = 0; c < 81; c++) {
            for (int down = 0; down <= 1; down++) {
                int room = down == 0 ? 9 - c % 9 : 9 - c / 9;
                for (int n : new int[] {room - 1, room, Math.min(room + 1, 9), 9}) {
                    dueWall(c, down, n, Math.min(n, room));
                    dueWall(c, down, -n, Math.min(n, room));
                }
            }
        }
    }

    /** On the empty grid, or on the full one if it frees, the wall changes so many cells from c on and no other. */
    private static void dueWall(int c, int down, int n, int length) {
        CostmapNavigator x = n < 0 ? Grids.full() : new CostmapNavigator();
        String call = "wall(" + c + ", " + down + ", " + n + ")";
        boolean[] change = new boolean[81];
        for (int i = 0; i < length; i++) {
            change[down == 0 ? c + i : c + 9 * i] = true;
        }
        check.due(call, x.wall(c, down, n), length);
        for (int other = 0; other < 81; other++) {
            check.due("blocked(" + other + ") after " + call, x.blocked(other), n < 0 ? !change[other] : change[other]);
        }
    }

    private static void wallOfNoneAndOne() {
        CostmapNavigator x = new CostmapNavigator();
        check.due("wall(40, 0, 0) on a free cell", x.wall(40, 0, 0), 0);
        check.due("wall(40, 1, 0) on a free cell", x.wall(40, 1, 0), 0);
        check.dueBlocked(x);
        check.due("wall(40, 0, 1)", x.wall(40, 0, 1), 1);
        check.dueBlocked(x, 40);
        check.due("wall(40, 0, 0) on a blocked cell", x.wall(40, 0, 0), 0);
        check.due("wall(40, 1, 0) on a blocked cell", x.wall(40, 1, 0), 0);
        check.dueBlocked(x, 40);
        check.due("wall(40, 0, -1)", x.wall(40, 0, -1), 1);
        check.dueBlocked(x);
    }

    private static void wallFrees() {
        CostmapNavigator x = Grids.of(0, 80, 0, 1, 9, 71, 79, 80);
        check.due("wall(0, 0, -1)", x.wall(0, 0, -1), 1);
        check.dueBlocked(x, 1, 9, 71, 79, 80);
        check.due("wall(0, 0, -9)", x.wall(0, 0, -9), 1);
        check.dueBlocked(x, 9, 71, 79, 80);
        check.due("wall(80, 1, -9), the last cell alone", x.wall(80, 1, -9), 1);
        check.dueBlocked(x, 9, 71, 79);
        check.due("wall(8, 1, -9)", x.wall(8, 1, -9), 1);
        check.dueBlocked(x, 9, 79);
    }

    private static void wallRefusesCells() {
        for (int c : ENDS) {
            check.due("wall(" + c + ", 0, 1)", new CostmapNavigator().wall(c, 0, 1), 1);
            check.due("wall(" + c + ", 1, 1)", new CostmapNavigator().wall(c, 1, 1), 1);
        }
        for (int c : Edges.NO_CELLS) {
            CostmapNavigator x = Grids.of(0, 80, 0, 80);
            for (int n : new int[] {-9, -1, 0, 1, 9, 10, LEAST, GREATEST}) {
                check.due("wall(" + c + ", 0, " + n + ")", x.wall(c, 0, n), BAD_ARG);
                check.due("wall(" + c + ", 1, " + n + ")", x.wall(c, 1, n), BAD_ARG);
                check.due("wall(" + c + ", least, " + n + ")", x.wall(c, LEAST, n), BAD_ARG);
                check.due("wall(" + c + ", greatest, " + n + ")", x.wall(c, GREATEST, n), BAD_ARG);
            }
            check.dueBlocked(x, 0, 80);
        }
    }

    private static void wallRefusesLengths() {
        check.due("wall(0, 0, 9)", new CostmapNavigator().wall(0, 0, 9), 9);
        check.due("wall(0, 1, 9)", new CostmapNavigator().wall(0, 1, 9), 9);
        check.due("wall(0, 0, -9)", Grids.full().wall(0, 0, -9), 9);
        check.due("wall(0, 1, -9)", Grids.full().wall(0, 1, -9), 9);
        for (int n : Edges.NO_LENGTHS) {
            CostmapNavigator x = Grids.of(0, 80, 0, 80);
            for (int c : ENDS) {
                check.due("wall(" + c + ", 0, " + n + ")", x.wall(c, 0, n), BAD_ARG);
                check.due("wall(" + c + ", 1, " + n + ")", x.wall(c, 1, n), BAD_ARG);
            }
            check.dueBlocked(x, 0, 80);
        }
    }

    private static void wallCounts() {
        CostmapNavigator x = Grids.of(0, 80, 38, 40);
        check.due("wall(36, 0, 9), two blocked before", x.wall(36, 0, 9), 7);
        check.due("wall(36, 0, 9), all blocked before", x.wall(36, 0, 9), 0);
        check.due("wall(36, 0, -9)", x.wall(36, 0, -9), 9);
        check.due("wall(36, 0, -9), all free before", x.wall(36, 0, -9), 0);
        x.block(44, 1);
        check.due("wall(36, 0, -9), the last one blocked before", x.wall(36, 0, -9), 1);
        check.due("wall(0, 0, 9), the robot's cell too", x.wall(0, 0, 9), 9);
        check.due("wall(8, 1, 9), the goal too, one blocked before", x.wall(8, 1, 9), 8);
    }

    private static void tuneToTheEnds() {
        CostmapNavigator x = Grids.of(0, 80, 36);
        dueCosts(x, 0, 0, 1, 1, 1, 1);
        dueCosts(x, 0, 9, 1, 1, 1, 1);
        dueCosts(x, 3, 0, 1, 1, 1, 1);
        dueCosts(x, 3, 9, 28, 19, 10, 1);
        dueCosts(x, 3, 1, 4, 3, 2, 1);
        dueCosts(x, 1, 9, 10, 1, 1, 1);
        dueCosts(x, 2, 8, 17, 9, 1, 1);
    }

    /** After tune(r, g) the costs at the clearances 1 to 4 from the blocked cell 36. */
    private static void dueCosts(CostmapNavigator x, int r, int g, int... want) {
        check.due("tune(" + r + ", " + g + ")", x.tune(r, g), 0);
        for (int k = 1; k <= 4; k++) {
            check.due("cost at clearance " + k + ", R " + r + ", g " + g, x.cost(36 + k), want[k - 1]);
        }
    }

    private static void tuneRefusesRadii() {
        check.due("tune(0, 5)", new CostmapNavigator().tune(0, 5), 0);
        check.due("tune(3, 5)", new CostmapNavigator().tune(3, 5), 0);
        for (int r : Edges.NO_RADII) {
            for (int g : new int[] {0, 7, 9, -1, 10, LEAST, GREATEST}) {
                dueTuneRefused(r, g);
            }
        }
    }

    private static void tuneRefusesGains() {
        check.due("tune(2, 0)", new CostmapNavigator().tune(2, 0), 0);
        check.due("tune(2, 9)", new CostmapNavigator().tune(2, 9), 0);
        for (int g : Edges.NO_GAINS) {
            for (int r : new int[] {0, 1, 3, -1, 4, LEAST, GREATEST}) {
                dueTuneRefused(r, g);
            }
        }
    }

    /** Neither of the two is taken over, not even the one that is in its range. */
    private static void dueTuneRefused(int r, int g) {
        CostmapNavigator x = Grids.of(0, 80, 36);
        x.tune(2, 5);
        String call = "tune(" + r + ", " + g + ")";
        check.due(call, x.tune(r, g), BAD_ARG);
        check.due("cost at clearance 1 after " + call, x.cost(37), 11);
        check.due("cost at clearance 2 after " + call, x.cost(38), 6);
        check.due("cost at clearance 3 after " + call, x.cost(39), 1);
    }

    private static void tuneAnswersZero() {
        CostmapNavigator x = new CostmapNavigator();
        for (int r = 0; r <= 3; r++) {
            for (int g = 0; g <= 9; g++) {
                check.due("tune(" + r + ", " + g + ")", x.tune(r, g), 0);
                check.due("tune(" + r + ", " + g + ") again", x.tune(r, g), 0);
            }
        }
    }

    private static void placeOnTheEnds() {
        CostmapNavigator x = new CostmapNavigator();
        for (int c : new int[] {80, 0, 79, 1, 8, 72}) {
            x.place(c);
            check.due("where() after place(" + c + ")", x.where(), c);
        }
        x.block(40, 1);
        x.place(40);
        check.due("where() after place(40), blocked", x.where(), 40);
    }

    private static void placeRefuses() {
        CostmapNavigator x = new CostmapNavigator();
        check.due("place(80)", x.place(80), 0);
        check.due("place(0)", x.place(0), 80);
        x.place(33);
        for (int c : Edges.NO_CELLS) {
            check.due("place(" + c + ")", x.place(c), BAD_ARG);
            check.due("where() after place(" + c + ")", x.where(), 33);
        }
        check.due("place(34)", x.place(34), 33);
    }

    private static void placeAnswersBefore() {
        CostmapNavigator x = new CostmapNavigator();
        check.due("place(0), where it stands", x.place(0), 0);
        check.due("place(80)", x.place(80), 0);
        check.due("place(80), where it stands", x.place(80), 80);
        check.due("place(0)", x.place(0), 80);
        x.drive(40);
        check.due("place(7) after the drive to the goal", x.place(7), 80);
        x.block(7, 1);
        check.due("place(8) from a blocked cell", x.place(8), 7);
    }

    private static void goalOnTheEnds() {
        CostmapNavigator x = new CostmapNavigator();
        for (int c : new int[] {0, 80, 1, 79, 8, 72}) {
            x.goal(c);
            check.due("distanceFrom(" + c + "), the goal", x.distanceFrom(c), 0);
            check.due("distance() to " + c, x.distance(), c % 9 + c / 9);
        }
        x.block(40, 1);
        x.goal(40);
        check.due("distance() to a blocked goal", x.distance(), NONE);
        check.due("where()", x.where(), 0);
    }

    private static void goalRefuses() {
        CostmapNavigator x = new CostmapNavigator();
        check.due("goal(0)", x.goal(0), 80);
        check.due("goal(80)", x.goal(80), 0);
        x.goal(33);
        for (int c : Edges.NO_CELLS) {
            check.due("goal(" + c + ")", x.goal(c), BAD_ARG);
            check.due("distanceFrom(33) after goal(" + c + ")", x.distanceFrom(33), 0);
        }
        check.due("goal(34)", x.goal(34), 33);
    }

    private static void goalAnswersBefore() {
        CostmapNavigator x = new CostmapNavigator();
        check.due("goal(80), the same", x.goal(80), 80);
        check.due("goal(0)", x.goal(0), 80);
        check.due("goal(0), the same", x.goal(0), 0);
        x.block(0, 1);
        check.due("goal(5) from a blocked one", x.goal(5), 0);
        x.place(5);
        check.due("goal(6) from under the robot", x.goal(6), 5);
    }
}
