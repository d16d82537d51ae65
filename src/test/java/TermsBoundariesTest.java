import java.util.List;
import java.util.function.ToIntFunction;

/** The boundary cases of "What it is" and of "Terms", each sentence with a test of its own. */
public final class TermsBoundariesTest {
    private static final int NONE = Edges.NONE;
    private static final int LEAST = Edges.LEAST;
    private static final int GREATEST = Edges.GREATEST;
    private static final int[] ANY_NUMBERS = {
        LEAST, LEAST + 1, -82, -81, -41, -40, -10, -9, -4, -1, 0, 1, 3, 4, 8, 9, 10, 39, 40, 41, 80, 81, 82,
        GREATEST - 1, GREATEST,
    };

    private static final List<ToIntFunction<CostmapNavigator>> CHANGES = List.of(
            x -> 0,
            x -> x.block(0, 1),
            x -> x.block(80, 1),
            x -> x.wall(4, 1, 9),
            x -> x.goal(0),
            x -> x.place(80),
            x -> x.tune(3, 9));

    private static final Check check = new Check();

    public static void main(String[] args) {
        whatItIs();
        grid();
        waysAndDistances();
        check.end();
    }

    private static void whatItIs() {
        String section = "What it is";
        check.sentence(section, "An object is used for at most 512 calls after it has been made",
                TermsBoundariesTest::lastCall);
        check.sentence(section, "what later calls answer is free", TermsBoundariesTest::callsAfterTheLast);
    }

    private static void grid() {
        String section = "Terms";
        check.sentence(section, "9 by 9 cells, cell (x, y) with x, y from 0 to 8, number 9 y + x",
                TermsBoundariesTest::cornersOfTheGrid);
        check.sentence(section, "A cell is BLOCKED or free", TermsBoundariesTest::emptyAndFullGrid);
        check.sentence(section, "the least, over all blocked cells, of the greater of the differences of x and of y",
                TermsBoundariesTest::leastOfTheGreater);
        check.sentence(section, "9 if no cell is blocked", TermsBoundariesTest::clearanceWithoutObstacles);
        check.sentence(section, "the COST of a free cell is 1 + g (R + 1 - clearance)",
                TermsBoundariesTest::leastAndGreatestCosts);
        check.sentence(section, "but 1 if the clearance is greater than R",
                TermsBoundariesTest::costAtTheRadiusAndBeyond);
    }

    private static void waysAndDistances() {
        String section = "Terms";
        check.sentence(section, "directions 0: y less by one, 1: x more, 2: y more, 3: x less",
                TermsBoundariesTest::firstMovesOnTheOpenGrid);
        check.sentence(section, "within the grid", TermsBoundariesTest::noMoveOverTheEdge);
        check.sentence(section, "A WAY is a list of one or more cells", TermsBoundariesTest::wayOfOneCell);
        check.sentence(section, "none of them blocked", TermsBoundariesTest::blockedCellOnTheWay);
        check.sentence(section, "the sum of the costs of all its cells but the first",
                TermsBoundariesTest::firstAndLastCellOfThePrice);
        check.sentence(section, "either may be blocked", TermsBoundariesTest::robotAndGoalBlocked);
        check.sentence(section, "the least price of a way from it to the goal", TermsBoundariesTest::leastPrice);
        check.sentence(section, "there is none if there is no way", TermsBoundariesTest::noWay);
        check.sentence(section, "No call ever throws", TermsBoundariesTest::noCallThrows);
    }

    private static void lastCall() {
        check.due("call 512, block(40, 0)", used().block(40, 0), 1);
        check.due("call 512, wall(36, 0, 9)", used().wall(36, 0, 9), 8);
        check.due("call 512, tune(3, 9)", used().tune(3, 9), 0);
        check.due("call 512, place(7)", used().place(7), 0);
        check.due("call 512, goal(7)", used().goal(7), 80);
        check.due("call 512, blocked(40)", used().blocked(40), true);
        check.due("call 512, blocked(41)", used().blocked(41), false);
        check.due("call 512, clearance(0)", used().clearance(0), 4);
        check.due("call 512, cost(41)", used().cost(41), 4);
        check.due("call 512, distance()", used().distance(), 16);
        check.due("call 512, distanceFrom(79)", used().distanceFrom(79), 1);
        check.due("call 512, next()", used().next(), 1);
        check.due("call 512, drive(40)", used().drive(40), 16);
        check.due("call 512, where()", used().where(), 0);
        check.due("call 512, moves()", used().moves(), 16);
        check.due("call 512, reached()", used().reached(), 80);
        check.due("call 512, farthest()", used().farthest(), 16);
        check.due("call 512, block(81, 1)", used().block(81, 1), Edges.BAD_ARG);
    }

    /** An object after 511 calls: cell 40 is blocked, all else is as on a new one. */
    private static CostmapNavigator used() {
        CostmapNavigator x = new CostmapNavigator();
        x.block(40, 1);
        for (int i = 0; i < 51; i++) {
            x.block(1, 1);
            x.wall(9, 0, 9);
            x.distance();
            x.wall(9, 0, -9);
            x.block(1, 0);
            x.tune(3, 9);
            x.drive(40);
            x.place(0);
            x.tune(1, 3);
            x.goal(81);
        }
        return x;
    }

    /** No answer is looked at: only a throw, or a call without an end, would be wrong. */
    private static void callsAfterTheLast() {
        CostmapNavigator x = used();
        x.where();
        for (int a : ANY_NUMBERS) {
            callAll(x, a);
        }
    }

    private static void cornersOfTheGrid() {
        CostmapNavigator x = Grids.of(0, 80, 0);
        check.due("clearance(1), beside (0, 0)", x.clearance(1), 1);
        check.due("clearance(9), below (0, 0)", x.clearance(9), 1);
        check.due("clearance(8), (8, 0) from (0, 0)", x.clearance(8), 8);
        check.due("clearance(17), (8, 1) from (0, 0)", x.clearance(17), 8);
        check.due("clearance(72), (0, 8) from (0, 0)", x.clearance(72), 8);
        check.due("clearance(80), (8, 8) from (0, 0)", x.clearance(80), 8);
        check.due("clearance(81), not a cell", x.clearance(81), Edges.BAD_ARG);
        x = Grids.of(0, 80, 8);
        check.due("clearance(17), below (8, 0)", x.clearance(17), 1);
        check.due("clearance(9), (0, 1) from (8, 0)", x.clearance(9), 8);
        x = Grids.of(0, 80, 72);
        check.due("clearance(63), above (0, 8)", x.clearance(63), 1);
        check.due("clearance(71), (8, 7) from (0, 8)", x.clearance(71), 8);
        x = Grids.of(0, 80, 80);
        check.due("clearance(71), above (8, 8)", x.clearance(71), 1);
        check.due("clearance(79), beside (8, 8)", x.clearance(79), 1);
        check.due("clearance(0), (0, 0) from (8, 8)", x.clearance(0), 8);
        check.due("clearance(-1), not a cell", x.clearance(-1), Edges.BAD_ARG);
    }

    private static void emptyAndFullGrid() {
        CostmapNavigator x = new CostmapNavigator();
        for (int c = 0; c < 81; c++) {
            check.due("blocked(" + c + ") before", x.blocked(c), false);
            check.due("block(" + c + ", 1)", x.block(c, 1), 0);
        }
        for (int c = 0; c < 81; c++) {
            check.due("blocked(" + c + "), all blocked", x.blocked(c), true);
            check.due("block(" + c + ", 0)", x.block(c, 0), 1);
        }
        for (int c = 0; c < 81; c++) {
            check.due("blocked(" + c + "), all freed", x.blocked(c), false);
        }
    }

    private static void leastOfTheGreater() {
        CostmapNavigator x = Grids.of(0, 80, 40);
        check.due("clearance(43), x 3 and y 0", x.clearance(43), 3);
        check.due("clearance(52), x 3 and y 1", x.clearance(52), 3);
        check.due("clearance(61), x 3 and y 2", x.clearance(61), 3);
        check.due("clearance(70), x 3 and y 3", x.clearance(70), 3);
        check.due("clearance(69), x 2 and y 3", x.clearance(69), 3);
        check.due("clearance(67), x 0 and y 3", x.clearance(67), 3);
        check.due("clearance(10), x -3 and y -3", x.clearance(10), 3);
        check.due("clearance(11), x -2 and y -3", x.clearance(11), 3);
        check.due("clearance(19), x -3 and y -2", x.clearance(19), 3);
        x.block(44, 1);
        check.due("clearance(42), 2 from both", x.clearance(42), 2);
        check.due("clearance(41), 1 from the first", x.clearance(41), 1);
        check.due("clearance(43), 1 from the last", x.clearance(43), 1);
        x = Grids.full();
        x.block(40, 0);
        check.due("clearance(40), all others blocked", x.clearance(40), 1);
    }

    private static void clearanceWithoutObstacles() {
        CostmapNavigator x = new CostmapNavigator();
        for (int c = 0; c < 81; c++) {
            check.due("clearance(" + c + "), no cell blocked", x.clearance(c), 9);
        }
        x.block(0, 1);
        check.due("clearance(80), the first cell blocked", x.clearance(80), 8);
        x.block(0, 0);
        check.due("clearance(80), freed", x.clearance(80), 9);
        x.block(80, 1);
        check.due("clearance(0), the last cell blocked", x.clearance(0), 8);
        x.block(80, 0);
        check.due("clearance(0), freed", x.clearance(0), 9);
        x.wall(0, 0, 9);
        check.due("clearance(72), a row blocked", x.clearance(72), 8);
        x.wall(0, 0, -9);
        check.due("clearance(72), the row freed", x.clearance(72), 9);
    }

    /** With cell (0, 4) blocked, cell (k, 4) has the clearance k. */
    private static void leastAndGreatestCosts() {
        for (int r = 0; r <= 3; r++) {
            for (int g = 0; g <= 9; g++) {
                CostmapNavigator x = Grids.of(0, 80, 36);
                x.tune(r, g);
                for (int k = 1; k <= r; k++) {
                    check.due("clearance " + k + ", R " + r + ", g " + g, x.cost(36 + k), 1 + g * (r + 1 - k));
                }
            }
        }
        CostmapNavigator x = Grids.of(0, 80, 36);
        x.tune(3, 9);
        check.due("the greatest cost", x.cost(37), 28);
        check.due("the greatest cost, diagonal", x.cost(28), 28);
        x.tune(3, 0);
        check.due("g 0", x.cost(37), 1);
        x.tune(1, 1);
        check.due("R 1 and g 1", x.cost(37), 2);
    }

    private static void costAtTheRadiusAndBeyond() {
        CostmapNavigator x = Grids.of(0, 80, 36);
        for (int g : new int[] {0, 1, 9}) {
            for (int r = 1; r <= 3; r++) {
                x.tune(r, g);
                check.due("clearance R, R " + r + ", g " + g, x.cost(36 + r), 1 + g);
                check.due("clearance R + 1, R " + r + ", g " + g, x.cost(36 + r + 1), 1);
                check.due("clearance 8, R " + r + ", g " + g, x.cost(44), 1);
            }
            x.tune(0, g);
            check.due("clearance 1, R 0, g " + g, x.cost(37), 1);
        }
        x.block(36, 0);
        x.tune(3, 9);
        check.due("clearance 9, R 3, g 9", x.cost(37), 1);
    }

    /** On the open grid each move towards the goal is on a cheapest way, so the least of these is due. */
    private static void firstMovesOnTheOpenGrid() {
        for (int from = 0; from < 81; from++) {
            CostmapNavigator x = new CostmapNavigator();
            x.place(from);
            for (int to = 0; to < 81; to++) {
                x.goal(to);
                check.due("next() from " + from + " to " + to, x.next(), openDirection(from, to));
            }
        }
    }

    private static int openDirection(int from, int to) {
        if (to / 9 < from / 9) {
            return 0;
        }
        if (to % 9 > from % 9) {
            return 1;
        }
        if (to / 9 > from / 9) {
            return 2;
        }
        return to % 9 < from % 9 ? 3 : NONE;
    }

    private static void noMoveOverTheEdge() {
        for (int y = 0; y < 8; y++) {
            int rowEnd = 9 * y + 8;
            check.due("distance() from " + rowEnd + " to the next number", Grids.of(rowEnd, rowEnd + 1).distance(), 9);
            check.due("distance() back", Grids.of(rowEnd + 1, rowEnd).distance(), 9);
            check.due("distance() from " + rowEnd + " down", Grids.of(rowEnd, rowEnd + 9).distance(), 1);
        }
        for (int i = 0; i < 9; i++) {
            check.due("distance() along column " + i, Grids.of(i, 72 + i).distance(), 8);
            check.due("distance() along row " + i, Grids.of(9 * i, 9 * i + 8).distance(), 8);
        }
        check.due("distance() from the last to the first cell", Grids.of(80, 0).distance(), 16);
        CostmapNavigator x = Grids.halves();
        for (int y = 0; y < 9; y++) {
            x.place(9 * y);
            check.due("distance() from " + 9 * y + ", column 4 blocked", x.distance(), NONE);
        }
        x = new CostmapNavigator();
        x.wall(36, 0, 9);
        for (int column = 0; column < 9; column++) {
            x.place(column);
            check.due("distance() from " + column + ", row 4 blocked", x.distance(), NONE);
        }
    }

    private static void wayOfOneCell() {
        for (int c = 0; c < 81; c++) {
            CostmapNavigator x = Grids.of(c, c);
            check.due("distance() on the goal " + c, x.distance(), 0);
            check.due("distanceFrom(" + c + "), the goal", x.distanceFrom(c), 0);
            check.due("moves() on the goal " + c, x.moves(), 0);
            x.block(c, 1);
            check.due("distance() on the blocked goal " + c, x.distance(), NONE);
            check.due("distanceFrom(" + c + "), the blocked goal", x.distanceFrom(c), NONE);
            check.due("moves() on the blocked goal " + c, x.moves(), NONE);
        }
    }

    /** Row 8 alone, from cell 72 to cell 74: the first, the middle and the last cell blocked in turn. */
    private static void blockedCellOnTheWay() {
        CostmapNavigator x = Grids.of(72, 74);
        x.wall(63, 0, 9);
        check.due("distance(), none blocked", x.distance(), 8);
        for (int c = 72; c <= 74; c++) {
            x.block(c, 1);
            check.due("distance(), " + c + " blocked", x.distance(), NONE);
            x.block(c, 0);
            check.due("distance(), " + c + " freed", x.distance(), 8);
        }
        x.block(75, 1);
        check.due("distance(), a cell beyond the goal blocked", x.distance(), 8);
    }

    private static void firstAndLastCellOfThePrice() {
        CostmapNavigator x = Grids.of(41, 42, 40);
        x.tune(1, 9);
        check.due("distance() from a dear cell to a cheap one", x.distance(), 1);
        x.place(42);
        x.goal(41);
        check.due("distance() from a cheap cell to a dear one", x.distance(), 10);
        x.place(41);
        check.due("distance() of one dear cell", x.distance(), 0);
        x.goal(32);
        check.due("distance() from a dear cell to a dear one", x.distance(), 10);
    }

    private static void robotAndGoalBlocked() {
        CostmapNavigator x = Grids.of(0, 80, 30, 50);
        check.due("place(30), blocked", x.place(30), 0);
        check.due("where()", x.where(), 30);
        check.due("distance(), robot blocked", x.distance(), NONE);
        check.due("goal(50), blocked", x.goal(50), 80);
        check.due("distance(), both blocked", x.distance(), NONE);
        check.due("block(30, 0) under the robot", x.block(30, 0), 1);
        check.due("distance(), goal blocked", x.distance(), NONE);
        check.due("block(50, 0) under the goal", x.block(50, 0), 1);
        check.due("distance(), none blocked", x.distance(), 4);
        check.due("block(30, 1) under the robot", x.block(30, 1), 0);
        check.due("where()", x.where(), 30);
        check.due("wall(50, 0, 1) under the goal", x.wall(50, 0, 1), 1);
        check.due("goal(80)", x.goal(80), 50);
        check.due("place(80)", x.place(80), 30);
    }

    /** Straight on are 8 cells, three of them beside the obstacle; the detour has 10 cells away from it. */
    private static void leastPrice() {
        CostmapNavigator x = Grids.of(9, 17, 4);
        x.tune(1, 0);
        check.due("distance(), g 0, straight on", x.distance(), 8);
        x.tune(1, 1);
        check.due("distance(), g 1, by the detour", x.distance(), 10);
        x.tune(1, 9);
        check.due("distance(), g 9, by the detour", x.distance(), 10);
        x.wall(0, 0, 9);
        x.wall(18, 0, 9);
        check.due("distance(), row 1 alone is left", x.distance(), 80);
    }

    private static void noWay() {
        CostmapNavigator x = Grids.halves();
        check.due("distance(), the wall whole", x.distance(), NONE);
        check.due("distanceFrom(3), left of it", x.distanceFrom(3), NONE);
        check.due("distanceFrom(4), in it", x.distanceFrom(4), NONE);
        check.due("distanceFrom(77), right of it", x.distanceFrom(77), 3);
        for (int gap = 4; gap < 81; gap += 9) {
            x.block(gap, 0);
            check.due("distance() exists, a gap at " + gap, x.distance() != NONE, true);
            x.block(gap, 1);
            check.due("distance(), no gap at " + gap, x.distance(), NONE);
        }
        x = Grids.of(0, 80, 1, 9);
        check.due("distance(), shut in a corner", x.distance(), NONE);
        x.block(1, 0);
        check.due("distance() exists, let out", x.distance() != NONE, true);
    }

    private static void noCallThrows() {
        for (ToIntFunction<CostmapNavigator> change : CHANGES) {
            for (int a : ANY_NUMBERS) {
                CostmapNavigator x = new CostmapNavigator();
                change.applyAsInt(x);
                callAll(x, a);
            }
        }
    }

    /** Every method, with the number as one of its arguments. */
    private static void callAll(CostmapNavigator x, int a) {
        for (int b : ANY_NUMBERS) {
            x.wall(a, b, b);
            x.wall(b, a, 9);
            x.wall(b, 0, a);
            x.tune(a, b);
            x.tune(b, a);
            x.block(a, b);
            x.block(b, a);
        }
        x.place(a);
        x.goal(a);
        x.blocked(a);
        x.clearance(a);
        x.cost(a);
        x.distanceFrom(a);
        x.distance();
        x.next();
        x.moves();
        x.reached();
        x.farthest();
        x.drive(a);
        x.where();
    }
}
