/** The boundary cases of promises 7 to 18, each sentence with a test of its own. */
public final class AnswersBoundariesTest {
    private static final int BAD_ARG = Edges.BAD_ARG;
    private static final int NONE = Edges.NONE;
    private static final int[] ENDS = {0, 80};

    private static final Check check = new Check();

    public static void main(String[] args) {
        cells();
        distances();
        next();
        drive();
        robot();
        wholeGrid();
        order();
        check.end();
    }

    private static void cells() {
        check.sentence("Promise 7", "Whether cell c is blocked", AnswersBoundariesTest::blockedAtTheEnds);
        check.sentence("Promise 7", "false if c is not 0 to 80", AnswersBoundariesTest::blockedOutside);
        check.sentence("Promise 8", "0 if it is blocked", AnswersBoundariesTest::clearanceOfBlockedCells);
        check.sentence("Promise 8", "BAD_ARG if c is not 0 to 80", AnswersBoundariesTest::clearanceRefuses);
        check.sentence("Promise 9", "NONE if it is blocked", AnswersBoundariesTest::costOfBlockedCells);
        check.sentence("Promise 9", "BAD_ARG if c is not 0 to 80", AnswersBoundariesTest::costRefuses);
    }

    private static void distances() {
        check.sentence("Promise 10", "The distance of the robot's cell", AnswersBoundariesTest::distanceEnds);
        check.sentence("Promise 10", "NONE if there is none", AnswersBoundariesTest::distanceNone);
        check.sentence("Promise 11", "The distance of cell c", AnswersBoundariesTest::distanceFromEnds);
        check.sentence("Promise 11", "NONE if there is none", AnswersBoundariesTest::distanceFromNone);
        check.sentence("Promise 11", "BAD_ARG if c is not 0 to 80", AnswersBoundariesTest::distanceFromRefuses);
    }

    private static void next() {
        String section = "Promise 12";
        check.sentence(section, "The least direction", AnswersBoundariesTest::nextLeastOfSeveral);
        check.sentence(section, "begins a way of the price distance() to the goal",
                AnswersBoundariesTest::nextAtEqualPrice);
        check.sentence(section, "NONE if there is no way", AnswersBoundariesTest::nextWithoutWay);
        check.sentence(section, "or the robot is on the goal", AnswersBoundariesTest::nextOnTheGoal);
    }

    private static void drive() {
        String section = "Promise 13";
        check.sentence(section, "The robot does up to n moves", AnswersBoundariesTest::driveUpToN);
        check.sentence(section, "at most 40", AnswersBoundariesTest::driveAtMostForty);
        check.sentence(section, "none if n < 1", AnswersBoundariesTest::driveNone);
        check.sentence(section, "each in the direction next()", AnswersBoundariesTest::driveAsNextSays);
        check.sentence(section, "until there is none", AnswersBoundariesTest::driveUntilThereIsNone);
        check.sentence(section, "Answers how many it did", AnswersBoundariesTest::driveCounts);
    }

    private static void robot() {
        check.sentence("Promise 14", "The robot's cell", AnswersBoundariesTest::whereAtTheEnds);
        check.sentence("Promise 15", "How many moves the robot would do", AnswersBoundariesTest::movesFewAndMany);
        check.sentence("Promise 15", "in the direction next() until it is on the goal",
                AnswersBoundariesTest::movesAsNextSays);
        check.sentence("Promise 15", "NONE if there is no way", AnswersBoundariesTest::movesWithoutWay);
    }

    private static void wholeGrid() {
        check.sentence("Promise 16", "How many cells have a distance", AnswersBoundariesTest::reachedAllToNone);
        check.sentence("Promise 17", "The greatest distance of a cell", AnswersBoundariesTest::farthestEnds);
        check.sentence("Promise 17", "NONE if no cell has one", AnswersBoundariesTest::farthestNone);
    }

    private static void order() {
        String words = "BAD_ARG is tested before NONE";
        check.sentence("Promise 18, cost", words, AnswersBoundariesTest::costOrder);
        check.sentence("Promise 18, distanceFrom", words, AnswersBoundariesTest::distanceFromOrder);
    }

    private static void blockedAtTheEnds() {
        for (int c : ENDS) {
            CostmapNavigator x = new CostmapNavigator();
            check.due("blocked(" + c + "), none blocked", x.blocked(c), false);
            x.block(c, 1);
            check.due("blocked(" + c + ")", x.blocked(c), true);
            check.due("blocked(" + (80 - c) + "), the other end", x.blocked(80 - c), false);
        }
    }

    private static void blockedOutside() {
        CostmapNavigator full = Grids.full();
        for (int c : ENDS) {
            check.due("blocked(" + c + "), all blocked", full.blocked(c), true);
        }
        for (int c : Edges.NO_CELLS) {
            check.due("blocked(" + c + "), all blocked", full.blocked(c), false);
            check.due("blocked(" + c + "), none blocked", new CostmapNavigator().blocked(c), false);
        }
    }

    private static void clearanceOfBlockedCells() {
        for (int c : ENDS) {
            CostmapNavigator x = Grids.of(0, 80, c);
            check.due("clearance(" + c + "), alone blocked", x.clearance(c), 0);
            x.block(c, 0);
            x.block(40, 1);
            check.due("clearance(" + c + "), freed", x.clearance(c), 4);
        }
        CostmapNavigator full = Grids.full();
        for (int c = 0; c < 81; c++) {
            check.due("clearance(" + c + "), all blocked", full.clearance(c), 0);
        }
    }

    private static void clearanceRefuses() {
        for (CostmapNavigator x : emptyPartFull()) {
            for (int c : ENDS) {
                check.due("clearance(" + c + ") accepted", x.clearance(c) >= 0, true);
            }
            for (int c : Edges.NO_CELLS) {
                check.due("clearance(" + c + ")", x.clearance(c), BAD_ARG);
            }
        }
    }

    private static void costOfBlockedCells() {
        for (int c : ENDS) {
            CostmapNavigator x = Grids.of(0, 80, c);
            check.due("cost(" + c + "), blocked", x.cost(c), NONE);
            x.tune(0, 0);
            check.due("cost(" + c + "), blocked, R 0 and g 0", x.cost(c), NONE);
            x.tune(3, 9);
            check.due("cost(" + c + "), blocked, R 3 and g 9", x.cost(c), NONE);
            check.due("cost beside it", x.cost(c == 0 ? 1 : 79), 28);
            x.block(c, 0);
            check.due("cost(" + c + "), freed", x.cost(c), 1);
        }
    }

    private static void costRefuses() {
        CostmapNavigator empty = new CostmapNavigator();
        for (int c : ENDS) {
            check.due("cost(" + c + ")", empty.cost(c), 1);
        }
        for (CostmapNavigator x : emptyPartFull()) {
            for (int c : Edges.NO_CELLS) {
                check.due("cost(" + c + ")", x.cost(c), BAD_ARG);
            }
        }
    }

    private static void distanceEnds() {
        check.due("distance() on the goal", Grids.of(80, 80).distance(), 0);
        check.due("distance() beside the goal", Grids.of(79, 80).distance(), 1);
        check.due("distance() from end to end", Grids.of(80, 0).distance(), 16);
        CostmapNavigator x = Grids.snake();
        x.tune(3, 9);
        check.due("distance() of 48 moves at the greatest cost", x.distance(), 1344);
    }

    private static void distanceNone() {
        check.due("distance(), robot blocked", Grids.of(0, 80, 0).distance(), NONE);
        check.due("distance(), goal blocked", Grids.of(0, 80, 80).distance(), NONE);
        check.due("distance(), both blocked", Grids.of(0, 80, 0, 80).distance(), NONE);
        check.due("distance(), on the goal, blocked", Grids.of(40, 40, 40).distance(), NONE);
        check.due("distance(), robot blocked beside the goal", Grids.of(79, 80, 79).distance(), NONE);
        check.due("distance(), robot shut in", Grids.of(0, 80, 1, 9).distance(), NONE);
        check.due("distance(), goal shut in", Grids.of(0, 80, 71, 79).distance(), NONE);
        check.due("distance(), one door to the goal, two cells of the cost 4", Grids.of(78, 80, 71).distance(), 8);
        check.due("distance(), all blocked", Grids.full().distance(), NONE);
    }

    private static void distanceFromEnds() {
        CostmapNavigator x = Grids.of(40, 80);
        check.due("distanceFrom(80), the goal", x.distanceFrom(80), 0);
        check.due("distanceFrom(79)", x.distanceFrom(79), 1);
        check.due("distanceFrom(0)", x.distanceFrom(0), 16);
        x.goal(0);
        check.due("distanceFrom(0), the goal", x.distanceFrom(0), 0);
        check.due("distanceFrom(1)", x.distanceFrom(1), 1);
        check.due("distanceFrom(80)", x.distanceFrom(80), 16);
    }

    private static void distanceFromNone() {
        CostmapNavigator x = Grids.of(40, 80, 0);
        check.due("distanceFrom(0), blocked", x.distanceFrom(0), NONE);
        check.due("distanceFrom(1), beside it", x.distanceFrom(1), 15);
        x.block(71, 1);
        x.block(79, 1);
        check.due("distanceFrom(78), goal shut in", x.distanceFrom(78), NONE);
        check.due("distanceFrom(80), the goal itself", x.distanceFrom(80), 0);
        x.block(80, 1);
        check.due("distanceFrom(80), the goal blocked", x.distanceFrom(80), NONE);
        check.due("distanceFrom(78), the goal blocked", x.distanceFrom(78), NONE);
    }

    private static void distanceFromRefuses() {
        CostmapNavigator empty = new CostmapNavigator();
        check.due("distanceFrom(0)", empty.distanceFrom(0), 16);
        check.due("distanceFrom(80)", empty.distanceFrom(80), 0);
        for (CostmapNavigator x : emptyPartFull()) {
            for (int c : Edges.NO_CELLS) {
                check.due("distanceFrom(" + c + ")", x.distanceFrom(c), BAD_ARG);
            }
        }
    }

    /** From cell 40 each of the four directions begins a way of 10 moves; they are blocked one by one. */
    private static void nextLeastOfSeveral() {
        CostmapNavigator x = Grids.of(40, 80, 42, 50, 58);
        x.tune(0, 9);
        check.due("next(), four directions", x.next(), 0);
        x.block(31, 1);
        check.due("next(), all but above", x.next(), 1);
        x.block(41, 1);
        check.due("next(), below or left", x.next(), 2);
        x.block(49, 1);
        check.due("next(), left alone", x.next(), 3);
        check.due("distance() still", x.distance(), 10);
        x.block(39, 1);
        check.due("next(), no direction", x.next(), NONE);
        x = Grids.of(36, 38, 37);
        check.due("next(), above or below", x.next(), 0);
        x = Grids.of(4, 22, 13);
        check.due("next(), right or left", x.next(), 1);
    }

    /** Straight on costs 2 + g, the way above and away from the obstacle costs 4. */
    private static void nextAtEqualPrice() {
        CostmapNavigator x = Grids.of(67, 69, 76);
        x.tune(1, 1);
        check.due("next(), straight on is cheaper by one", x.next(), 1);
        x.tune(1, 2);
        check.due("next(), both ways at one price", x.next(), 0);
        x.tune(1, 3);
        check.due("next(), the way above is cheaper by one", x.next(), 0);
        x.block(58, 1);
        check.due("next(), the way above blocked", x.next(), 1);
    }

    private static void nextWithoutWay() {
        check.due("next(), column 4 blocked", Grids.halves().next(), NONE);
        check.due("next(), robot blocked", Grids.of(0, 80, 0).next(), NONE);
        check.due("next(), robot blocked beside the goal", Grids.of(79, 80, 79).next(), NONE);
        check.due("next(), goal blocked", Grids.of(0, 80, 80).next(), NONE);
        check.due("next(), goal blocked beside the robot", Grids.of(79, 80, 80).next(), NONE);
        check.due("next(), all blocked", Grids.full().next(), NONE);
        CostmapNavigator x = Grids.halves();
        x.block(76, 0);
        check.due("next(), a gap in column 4", x.next() != NONE, true);
    }

    private static void nextOnTheGoal() {
        for (int c : ENDS) {
            check.due("next() on the goal " + c, Grids.of(c, c).next(), NONE);
            check.due("next() on the blocked goal " + c, Grids.of(c, c, c).next(), NONE);
        }
        check.due("next() left of the goal", Grids.of(79, 80).next(), 1);
        check.due("next() above the goal", Grids.of(71, 80).next(), 2);
        check.due("next() right of the goal", Grids.of(1, 0).next(), 3);
        check.due("next() below the goal", Grids.of(9, 0).next(), 0);
    }

    private static void driveUpToN() {
        dueDrive(new CostmapNavigator(), 1, 1, 1);
        dueDrive(new CostmapNavigator(), 2, 2, 2);
        dueDrive(new CostmapNavigator(), 15, 15, 71);
        dueDrive(new CostmapNavigator(), 16, 16, 80);
    }

    /** The snake's way has 48 moves: 39 are left at cell 17, 40 at cell 8 and 41 at cell 7. */
    private static void driveAtMostForty() {
        dueDrive(Grids.snake(), 39, 39, 63);
        dueDrive(Grids.snake(), 40, 40, 72);
        dueDrive(Grids.snake(), 41, 40, 72);
        dueDrive(Grids.snake(), Edges.GREATEST, 40, 72);
        dueDrive(Grids.snake(), 256, 40, 72);
        dueDrive(snakeFrom(17), Edges.GREATEST, 39, 80);
        dueDrive(snakeFrom(8), Edges.GREATEST, 40, 80);
        dueDrive(snakeFrom(7), Edges.GREATEST, 40, 79);
        dueDrive(snakeFrom(7), 41, 40, 79);
    }

    private static void driveNone() {
        for (int n : new int[] {0, -1, -2, -40, -41, Edges.LEAST, Edges.LEAST + 1, Edges.LEAST + 40}) {
            dueDrive(new CostmapNavigator(), n, 0, 0);
            dueDrive(Grids.of(79, 80), n, 0, 79);
        }
        dueDrive(Grids.of(79, 80), 1, 1, 80);
    }

    private static void driveAsNextSays() {
        CostmapNavigator step = Grids.detour();
        for (int done = 0; done < 10; done++) {
            int direction = step.next();
            int from = step.where();
            int to = from + new int[] {-9, 1, 9, -1}[direction];
            dueDrive(step, 1, 1, to);
            CostmapNavigator whole = Grids.detour();
            dueDrive(whole, done + 1, done + 1, to);
        }
        check.due("next() at the end", step.next(), NONE);
    }

    private static void driveUntilThereIsNone() {
        dueDrive(new CostmapNavigator(), 17, 16, 80);
        dueDrive(new CostmapNavigator(), Edges.GREATEST, 16, 80);
        dueDrive(Grids.of(79, 80), 40, 1, 80);
        dueDrive(Grids.of(80, 80), 40, 0, 80);
        dueDrive(Grids.of(80, 80), 1, 0, 80);
        dueDrive(Grids.of(80, 80, 80), 1, 0, 80);
        dueDrive(Grids.of(79, 80, 79), 1, 0, 79);
        dueDrive(Grids.of(79, 80, 80), 1, 0, 79);
        dueDrive(Grids.halves(), Edges.GREATEST, 0, 0);
        dueDrive(Grids.full(), Edges.GREATEST, 0, 0);
    }

    private static void driveCounts() {
        CostmapNavigator x = Grids.snake();
        dueDrive(x, 40, 40, 72);
        dueDrive(x, 7, 7, 79);
        dueDrive(x, 0, 0, 79);
        dueDrive(x, 2, 1, 80);
        dueDrive(x, 2, 0, 80);
    }

    private static CostmapNavigator snakeFrom(int robot) {
        CostmapNavigator x = Grids.snake();
        x.place(robot);
        return x;
    }

    private static void dueDrive(CostmapNavigator x, int n, int moves, int end) {
        int from = x.where();
        check.due("drive(" + n + ") from " + from, x.drive(n), moves);
        check.due("where() after drive(" + n + ") from " + from, x.where(), end);
    }

    private static void whereAtTheEnds() {
        check.due("where() of a new object", new CostmapNavigator().where(), 0);
        check.due("where() on the last cell", Grids.of(80, 0).where(), 80);
        check.due("where() on a blocked cell", Grids.of(80, 0, 80).where(), 80);
        check.due("where(), all blocked", Grids.full().where(), 0);
        CostmapNavigator x = Grids.of(80, 0);
        x.place(81);
        check.due("where() after place(81)", x.where(), 80);
        x.place(Edges.LEAST);
        check.due("where() after place(least)", x.where(), 80);
        x.moves();
        check.due("where() after moves()", x.where(), 80);
    }

    private static void movesFewAndMany() {
        check.due("moves() on the goal", Grids.of(80, 80).moves(), 0);
        check.due("moves() beside the goal", Grids.of(79, 80).moves(), 1);
        check.due("moves() on the open grid", new CostmapNavigator().moves(), 16);
        check.due("moves(), as many as drive does", snakeFrom(8).moves(), 40);
        check.due("moves(), one more than drive does", snakeFrom(7).moves(), 41);
        check.due("moves(), the whole snake", Grids.snake().moves(), 48);
    }

    /** The same ways as for next() at equal price: 2 moves straight on, 4 by the way above. */
    private static void movesAsNextSays() {
        CostmapNavigator x = Grids.of(67, 69, 76);
        x.tune(1, 1);
        check.due("moves(), straight on is cheaper", x.moves(), 2);
        x.tune(1, 2);
        check.due("moves(), both ways at one price", x.moves(), 4);
        x.tune(1, 3);
        check.due("moves(), the way above is cheaper", x.moves(), 4);
    }

    private static void movesWithoutWay() {
        check.due("moves(), column 4 blocked", Grids.halves().moves(), NONE);
        check.due("moves(), robot blocked", Grids.of(0, 80, 0).moves(), NONE);
        check.due("moves(), robot blocked beside the goal", Grids.of(79, 80, 79).moves(), NONE);
        check.due("moves(), goal blocked", Grids.of(0, 80, 80).moves(), NONE);
        check.due("moves(), on the goal, blocked", Grids.of(40, 40, 40).moves(), NONE);
        check.due("moves(), all blocked", Grids.full().moves(), NONE);
        CostmapNavigator x = Grids.halves();
        x.block(76, 0);
        check.due("moves(), a gap in the last row", x.moves(), 16);
    }

    private static void reachedAllToNone() {
        check.due("reached(), all", new CostmapNavigator().reached(), 81);
        check.due("reached(), all but one", Grids.of(0, 80, 40).reached(), 80);
        check.due("reached(), robot blocked", Grids.of(0, 80, 0).reached(), 80);
        check.due("reached(), all but the corner and its walls", Grids.of(0, 80, 1, 9).reached(), 78);
        check.due("reached(), the goal and one cell", Grids.of(0, 80, 71, 70, 78).reached(), 2);
        check.due("reached(), the goal alone", Grids.of(0, 80, 71, 79).reached(), 1);
        check.due("reached(), goal blocked", Grids.of(0, 80, 80).reached(), 0);
        check.due("reached(), all blocked", Grids.full().reached(), 0);
    }

    private static void farthestEnds() {
        check.due("farthest(), the goal alone", Grids.of(0, 80, 71, 79).farthest(), 0);
        check.due("farthest(), goal in the corner", new CostmapNavigator().farthest(), 16);
        check.due("farthest(), goal in the middle", Grids.of(0, 40).farthest(), 8);
        check.due("farthest(), from cell 10, robot shut in", Grids.of(0, 80, 1, 9).farthest(), 17);
        CostmapNavigator x = Grids.snake();
        x.tune(3, 9);
        check.due("farthest() at the greatest cost", x.farthest(), 1344);
    }

    private static void farthestNone() {
        check.due("farthest(), goal blocked", Grids.of(0, 80, 80).farthest(), NONE);
        check.due("farthest(), all blocked", Grids.full().farthest(), NONE);
        CostmapNavigator x = Grids.full();
        x.block(79, 0);
        check.due("farthest(), one free cell beside the goal", x.farthest(), NONE);
        x.block(80, 0);
        check.due("farthest(), the goal freed too, a move of the cost 4", x.farthest(), 4);
    }

    private static void costOrder() {
        CostmapNavigator x = Grids.full();
        for (int c : ENDS) {
            check.due("cost(" + c + "), all blocked", x.cost(c), NONE);
        }
        for (int c : Edges.NO_CELLS) {
            check.due("cost(" + c + "), all blocked", x.cost(c), BAD_ARG);
        }
    }

    private static void distanceFromOrder() {
        for (CostmapNavigator x : new CostmapNavigator[] {Grids.full(), Grids.of(0, 80, 80), Grids.of(0, 0, 0)}) {
            for (int c : ENDS) {
                check.due("distanceFrom(" + c + "), goal blocked", x.distanceFrom(c), NONE);
            }
            for (int c : Edges.NO_CELLS) {
                check.due("distanceFrom(" + c + "), goal blocked", x.distanceFrom(c), BAD_ARG);
            }
        }
    }

    private static CostmapNavigator[] emptyPartFull() {
        return new CostmapNavigator[] {new CostmapNavigator(), Grids.halves(), Grids.full()};
    }
}
