/** Each promise by itself, with answers worked out by hand from the document. */
public final class PromisesTest {
    private static final int BAD_ARG = Edges.BAD_ARG;
    private static final int NONE = Edges.NONE;
    private static final int LEAST = Edges.LEAST;
    private static final int GREATEST = Edges.GREATEST;
    private static final int[] NO_CELLS = Edges.NO_CELLS;

    private static final Check check = new Check();

    public static void main(String[] args) {
        newObject();
        block();
        wallBlocks();
        wallFrees();
        wallRefuses();
        tune();
        place();
        goal();
        blocked();
        clearance();
        cost();
        distance();
        distanceIsNone();
        distanceFrom();
        nextTakesLeastDirection();
        nextFollowsPrice();
        nextIsNone();
        drive();
        driveOnLongWay();
        driveWithoutWay();
        where();
        moves();
        movesFollowNext();
        reached();
        farthest();
        badArgumentBeforeNone();
        lastCalls();
        check.end();
    }

    private static void newObject() {
        check.part("promise 1");
        CostmapNavigator x = new CostmapNavigator();
        for (int c = 0; c < 81; c++) {
            check.due("blocked(" + c + ")", x.blocked(c), false);
            check.due("clearance(" + c + ")", x.clearance(c), 9);
            check.due("cost(" + c + ")", x.cost(c), 1);
        }
        check.due("where()", x.where(), 0);
        check.due("distanceFrom(80)", x.distanceFrom(80), 0);
        check.due("goal(80)", x.goal(80), 80);
        x.block(40, 1);
        check.due("cost(41), R 1 and g 3", x.cost(41), 4);
        check.due("cost(42), R 1 and g 3", x.cost(42), 1);
        check.due("another object's blocked(40)", new CostmapNavigator().blocked(40), false);
    }

    private static void block() {
        check.part("promise 2");
        CostmapNavigator x = new CostmapNavigator();
        for (int c : new int[] {0, 8, 40, 72, 80}) {
            check.due("block(c, 0) on free", x.block(c, 0), 0);
            check.due("blocked", x.blocked(c), false);
            check.due("block(c, 1) on free", x.block(c, 1), 0);
            check.due("blocked", x.blocked(c), true);
            check.due("block(c, 1) on blocked", x.block(c, 1), 1);
            check.due("blocked", x.blocked(c), true);
            check.due("block(c, 0) on blocked", x.block(c, 0), 1);
            check.due("blocked", x.blocked(c), false);
        }
        for (int on : new int[] {2, -1, 256, LEAST, GREATEST}) {
            check.due("block(5, " + on + ")", x.block(5, on), 0);
            check.due("blocked(5)", x.blocked(5), true);
            check.due("block(5, 0)", x.block(5, 0), 1);
        }
        x.block(0, 1);
        x.block(80, 1);
        String before = picture(x);
        for (int c : NO_CELLS) {
            check.due("block(" + c + ", 1)", x.block(c, 1), BAD_ARG);
            check.due("block(" + c + ", 0)", x.block(c, 0), BAD_ARG);
        }
        check.due("after refusals", picture(x), before);
    }

    private static void wallBlocks() {
        check.part("promise 3, blocking");
        CostmapNavigator x = new CostmapNavigator();
        check.due("wall(20, 0, 3)", x.wall(20, 0, 3), 3);
        check.dueBlocked(x, 20, 21, 22);
        check.due("wall(19, 0, 5)", x.wall(19, 0, 5), 2);
        check.dueBlocked(x, 19, 20, 21, 22, 23);
        check.due("wall(19, 0, 5) again", x.wall(19, 0, 5), 0);
        check.due("wall(11, 1, 3)", x.wall(11, 1, 3), 2);
        check.dueBlocked(x, 11, 19, 20, 21, 22, 23, 29);
        check.due("wall(50, 0, 0)", x.wall(50, 0, 0), 0);
        check.due("wall(20, 1, 0)", x.wall(20, 1, 0), 0);
        check.dueBlocked(x, 11, 19, 20, 21, 22, 23, 29);

        x = new CostmapNavigator();
        check.due("wall(7, 0, 9), two in the row", x.wall(7, 0, 9), 2);
        check.dueBlocked(x, 7, 8);
        check.due("wall(64, 1, 9), two in the column", x.wall(64, 1, 9), 2);
        check.dueBlocked(x, 7, 8, 64, 73);
        check.due("wall(80, 0, 9)", x.wall(80, 0, 9), 1);
        check.due("wall(80, 1, 9)", x.wall(80, 1, 9), 0);
        check.dueBlocked(x, 7, 8, 64, 73, 80);

        x = new CostmapNavigator();
        check.due("wall(36, 0, 9)", x.wall(36, 0, 9), 9);
        check.dueBlocked(x, 36, 37, 38, 39, 40, 41, 42, 43, 44);
        for (int down : new int[] {1, -1, 2, LEAST, GREATEST}) {
            x = new CostmapNavigator();
            check.due("wall(4, " + down + ", 9)", x.wall(4, down, 9), 9);
            check.dueBlocked(x, 4, 13, 22, 31, 40, 49, 58, 67, 76);
            check.due("wall(4, " + down + ", -9)", x.wall(4, down, -9), 9);
            check.dueBlocked(x);
        }
    }

    private static void wallFrees() {
        check.part("promise 3, freeing");
        CostmapNavigator x = new CostmapNavigator();
        x.wall(0, 0, 9);
        x.wall(9, 0, 9);
        check.due("wall(2, 0, -3)", x.wall(2, 0, -3), 3);
        check.dueBlocked(x, 0, 1, 5, 6, 7, 8, 9, 10, 11, 12, 13, 14, 15, 16, 17);
        check.due("wall(1, 0, -5)", x.wall(1, 0, -5), 2);
        check.dueBlocked(x, 0, 6, 7, 8, 9, 10, 11, 12, 13, 14, 15, 16, 17);
        check.due("wall(7, 0, -9), none in the next row", x.wall(7, 0, -9), 2);
        check.dueBlocked(x, 0, 6, 9, 10, 11, 12, 13, 14, 15, 16, 17);
        check.due("wall(0, 1, -9)", x.wall(0, 1, -9), 2);
        check.dueBlocked(x, 6, 10, 11, 12, 13, 14, 15, 16, 17);
        check.due("wall(6, 1, -1)", x.wall(6, 1, -1), 1);
        check.due("wall(6, 1, -1) again", x.wall(6, 1, -1), 0);
        check.due("wall(15, 1, 0) frees none", x.wall(15, 1, 0), 0);
        check.dueBlocked(x, 10, 11, 12, 13, 14, 15, 16, 17);
    }

    private static void wallRefuses() {
        check.part("promise 3, refusing");
        CostmapNavigator x = new CostmapNavigator();
        x.wall(36, 0, 4);
        String before = picture(x);
        for (int c : NO_CELLS) {
            check.due("wall(" + c + ", 0, 1)", x.wall(c, 0, 1), BAD_ARG);
            check.due("wall(" + c + ", 1, -1)", x.wall(c, 1, -1), BAD_ARG);
            check.due("wall(" + c + ", 0, 0)", x.wall(c, 0, 0), BAD_ARG);
        }
        for (int n : new int[] {10, -10, 11, -11, LEAST, LEAST + 1, GREATEST}) {
            check.due("wall(36, 0, " + n + ")", x.wall(36, 0, n), BAD_ARG);
            check.due("wall(36, 1, " + n + ")", x.wall(36, 1, n), BAD_ARG);
        }
        check.due("after refusals", picture(x), before);
    }

    private static void tune() {
        check.part("promise 4");
        CostmapNavigator x = new CostmapNavigator();
        x.block(40, 1);
        for (int r = 0; r <= 3; r++) {
            for (int g = 0; g <= 9; g++) {
                check.due("tune(" + r + ", " + g + ")", x.tune(r, g), 0);
                check.due("cost(41)", x.cost(41), r < 1 ? 1 : 1 + g * r);
            }
        }
        x.tune(2, 5);
        String before = picture(x);
        for (int r : new int[] {-1, 4, LEAST, GREATEST}) {
            check.due("tune(" + r + ", 7)", x.tune(r, 7), BAD_ARG);
        }
        for (int g : new int[] {-1, 10, LEAST, GREATEST}) {
            check.due("tune(3, " + g + ")", x.tune(3, g), BAD_ARG);
        }
        check.due("tune(4, 10)", x.tune(4, 10), BAD_ARG);
        check.due("after refusals", picture(x), before);
        check.due("cost(41), R 2 and g 5", x.cost(41), 11);
    }

    private static void place() {
        check.part("promise 5");
        CostmapNavigator x = new CostmapNavigator();
        check.due("place(80)", x.place(80), 0);
        check.due("where()", x.where(), 80);
        check.due("place(0)", x.place(0), 80);
        x.block(33, 1);
        check.due("place(33), a blocked cell", x.place(33), 0);
        check.due("where()", x.where(), 33);
        check.due("place(33) again", x.place(33), 33);
        String before = picture(x);
        for (int c : NO_CELLS) {
            check.due("place(" + c + ")", x.place(c), BAD_ARG);
        }
        check.due("after refusals", picture(x), before);
    }

    private static void goal() {
        check.part("promise 6");
        CostmapNavigator x = new CostmapNavigator();
        check.due("goal(0)", x.goal(0), 80);
        check.due("distance()", x.distance(), 0);
        check.due("goal(5)", x.goal(5), 0);
        check.due("distance()", x.distance(), 5);
        x.block(33, 1);
        check.due("goal(33), a blocked cell", x.goal(33), 5);
        check.due("goal(33) again", x.goal(33), 33);
        check.due("goal(80)", x.goal(80), 33);
        check.due("where()", x.where(), 0);
        String before = picture(x);
        for (int c : NO_CELLS) {
            check.due("goal(" + c + ")", x.goal(c), BAD_ARG);
        }
        check.due("after refusals", picture(x), before);
        check.due("goal(1)", x.goal(1), 80);
    }

    private static void blocked() {
        check.part("promise 7");
        CostmapNavigator x = Grids.full();
        x.block(17, 0);
        for (int c = 0; c < 81; c++) {
            check.due("blocked(" + c + ")", x.blocked(c), c != 17);
        }
        for (int c : NO_CELLS) {
            check.due("blocked(" + c + ")", x.blocked(c), false);
        }
    }

    private static void clearance() {
        check.part("promise 8");
        CostmapNavigator x = new CostmapNavigator();
        check.due("clearance(40), no cell blocked", x.clearance(40), 9);
        x.block(0, 1);
        check.due("clearance(0), blocked", x.clearance(0), 0);
        check.due("clearance(1)", x.clearance(1), 1);
        check.due("clearance(10), diagonal", x.clearance(10), 1);
        check.due("clearance(8), far in x", x.clearance(8), 8);
        check.due("clearance(72), far in y", x.clearance(72), 8);
        check.due("clearance(80)", x.clearance(80), 8);
        check.due("clearance(23), x 5 and y 2", x.clearance(23), 5);
        check.due("clearance(47), x 2 and y 5", x.clearance(47), 5);
        check.due("clearance(9), not 1 by its number", x.clearance(9), 1);
        x.block(80, 1);
        check.due("clearance(40)", x.clearance(40), 4);
        check.due("clearance(60), nearer to 80", x.clearance(60), 2);
        check.due("clearance(20), nearer to 0", x.clearance(20), 2);
        x.block(0, 0);
        check.due("clearance(0), freed", x.clearance(0), 8);
        x.block(80, 0);
        check.due("clearance(0), none blocked any more", x.clearance(0), 9);
        x.block(17, 1);
        check.due("clearance(18), the other side of the grid", x.clearance(18), 8);
        for (int c : NO_CELLS) {
            check.due("clearance(" + c + ")", x.clearance(c), BAD_ARG);
        }
    }

    private static void cost() {
        check.part("promise 9");
        CostmapNavigator x = new CostmapNavigator();
        x.tune(3, 9);
        check.due("cost(40), no cell blocked", x.cost(40), 1);
        x.block(40, 1);
        check.due("cost(40), blocked", x.cost(40), NONE);
        check.due("cost(41), R 3 and g 9", x.cost(41), 28);
        check.due("cost(50), diagonal", x.cost(50), 28);
        check.due("cost(42)", x.cost(42), 19);
        check.due("cost(43), clearance is R", x.cost(43), 10);
        check.due("cost(44), clearance is R + 1", x.cost(44), 1);
        x.tune(2, 5);
        check.due("cost(41), R 2 and g 5", x.cost(41), 11);
        check.due("cost(42)", x.cost(42), 6);
        check.due("cost(43)", x.cost(43), 1);
        x.tune(0, 9);
        check.due("cost(41), R 0", x.cost(41), 1);
        x.tune(3, 0);
        check.due("cost(41), g 0", x.cost(41), 1);
        check.due("cost(40), blocked, g 0", x.cost(40), NONE);
        x.block(40, 0);
        check.due("cost(40), freed", x.cost(40), 1);
        for (int c : NO_CELLS) {
            check.due("cost(" + c + ")", x.cost(c), BAD_ARG);
        }
    }

    private static void distance() {
        check.part("promise 10");
        CostmapNavigator x = new CostmapNavigator();
        check.due("distance()", x.distance(), 16);
        x.goal(0);
        check.due("distance() on the goal", x.distance(), 0);
        x.block(1, 1);
        check.due("distance() on the goal near an obstacle", x.distance(), 0);
        x.goal(18);
        check.due("distance() counts the last cell, not the first", x.distance(), 5);
        x.place(18);
        x.goal(0);
        check.due("distance() the other way", x.distance(), 8);
        x = Grids.detour();
        check.due("distance() by the detour", x.distance(), 10);
        x.tune(1, 0);
        check.due("distance() straight on", x.distance(), 8);
        x = Grids.snake();
        check.due("distance() of the long way", x.distance(), 192);
        x.tune(3, 9);
        check.due("distance() of the long way at the greatest cost", x.distance(), 48 * 28);
    }

    private static void distanceIsNone() {
        check.part("promise 10, none");
        CostmapNavigator x = new CostmapNavigator();
        x.block(80, 1);
        check.due("distance(), goal blocked", x.distance(), NONE);
        x.place(80);
        check.due("distance(), both on one blocked cell", x.distance(), NONE);
        x.block(80, 0);
        check.due("distance(), both on one free cell", x.distance(), 0);
        x.place(0);
        x.block(0, 1);
        check.due("distance(), robot blocked", x.distance(), NONE);
        x.block(0, 0);
        x.block(1, 1);
        x.block(9, 1);
        check.due("distance(), no way over a corner", x.distance(), NONE);
        x = new CostmapNavigator();
        x.wall(4, 1, 9);
        check.due("distance(), a wall between, no way round the grid", x.distance(), NONE);
    }

    private static void distanceFrom() {
        check.part("promise 11");
        CostmapNavigator x = new CostmapNavigator();
        x.goal(40);
        for (int c = 0; c < 81; c++) {
            int far = Math.abs(c % 9 - 4) + Math.abs(c / 9 - 4);
            check.due("distanceFrom(" + c + ")", x.distanceFrom(c), far);
        }
        x.block(1, 1);
        x.goal(0);
        check.due("distanceFrom(0), the goal", x.distanceFrom(0), 0);
        check.due("distanceFrom(9)", x.distanceFrom(9), 4);
        check.due("distanceFrom(18)", x.distanceFrom(18), 8);
        check.due("distanceFrom(1), blocked", x.distanceFrom(1), NONE);
        x.block(9, 1);
        check.due("distanceFrom(10), no way", x.distanceFrom(10), NONE);
        check.due("distanceFrom(0)", x.distanceFrom(0), 0);
        x.block(0, 1);
        check.due("distanceFrom(0), the goal blocked", x.distanceFrom(0), NONE);
        for (int c : NO_CELLS) {
            check.due("distanceFrom(" + c + ")", x.distanceFrom(c), BAD_ARG);
        }
        check.due("where()", x.where(), 0);
    }

    private static void nextTakesLeastDirection() {
        check.part("promise 12, ties");
        dueNext(0, 80, 1);
        dueNext(80, 0, 0);
        dueNext(72, 8, 0);
        dueNext(8, 72, 2);
        dueNext(40, 31, 0);
        dueNext(40, 41, 1);
        dueNext(40, 49, 2);
        dueNext(40, 39, 3);
        dueNext(8, 0, 3);
        dueNext(0, 72, 2);
        dueNext(9, 8, 0);
        dueNext(8, 9, 2);
    }

    private static void nextFollowsPrice() {
        check.part("promise 12, prices");
        CostmapNavigator x = Grids.detour();
        check.due("next(), the detour begins to the right", x.next(), 1);
        x.place(11);
        check.due("next(), below and away from the obstacle", x.next(), 2);
        x.place(13);
        check.due("next(), under the obstacle", x.next(), 2);
        x.tune(1, 0);
        check.due("next(), all cells cost the same", x.next(), 1);
        check.due("where()", x.where(), 13);
        check.due("next() asked again", x.next(), 1);
        x.block(14, 1);
        check.due("next(), the straight way blocked", x.next(), 2);
    }

    private static void nextIsNone() {
        check.part("promise 12, none");
        CostmapNavigator x = new CostmapNavigator();
        x.goal(0);
        check.due("next() on the goal", x.next(), NONE);
        x.goal(80);
        x.block(80, 1);
        check.due("next(), goal blocked", x.next(), NONE);
        x.block(80, 0);
        x.block(0, 1);
        check.due("next(), robot blocked", x.next(), NONE);
        x.goal(1);
        check.due("next(), robot blocked beside the goal", x.next(), NONE);
        x.goal(80);
        x.block(0, 0);
        x.wall(1, 1, 2);
        x.block(9, 1);
        check.due("next(), shut in", x.next(), NONE);
    }

    private static void drive() {
        check.part("promise 13");
        CostmapNavigator x = new CostmapNavigator();
        for (int n : new int[] {0, -1, -40, LEAST}) {
            check.due("drive(" + n + ")", x.drive(n), 0);
            check.due("where()", x.where(), 0);
        }
        check.due("drive(1)", x.drive(1), 1);
        check.due("where()", x.where(), 1);
        check.due("drive(7)", x.drive(7), 7);
        check.due("where()", x.where(), 8);
        check.due("drive(2)", x.drive(2), 2);
        check.due("where()", x.where(), 26);
        check.due("drive(7), six are left", x.drive(7), 6);
        check.due("where()", x.where(), 80);
        check.due("drive(5) on the goal", x.drive(5), 0);
        check.due("where()", x.where(), 80);
        x.goal(60);
        check.due("drive(3)", x.drive(3), 3);
        check.due("where()", x.where(), 61);
        x = Grids.detour();
        check.due("drive(3) on the detour", x.drive(3), 3);
        check.due("where()", x.where(), 20);
        check.due("drive(40)", x.drive(40), 7);
        check.due("where()", x.where(), 17);
    }

    private static void driveOnLongWay() {
        check.part("promise 13, at most 40");
        for (int n : new int[] {40, 41, 48, 100, GREATEST}) {
            CostmapNavigator x = Grids.snake();
            check.due("drive(" + n + ")", x.drive(n), 40);
            check.due("where()", x.where(), 72);
            check.due("drive(" + n + ") again", x.drive(n), 8);
            check.due("where()", x.where(), 80);
        }
        CostmapNavigator x = Grids.snake();
        check.due("drive(39)", x.drive(39), 39);
        check.due("where()", x.where(), 63);
    }

    private static void driveWithoutWay() {
        check.part("promise 13, no way");
        CostmapNavigator x = new CostmapNavigator();
        x.wall(4, 1, 9);
        check.due("drive(5), a wall between", x.drive(5), 0);
        check.due("where()", x.where(), 0);
        x.block(40, 0);
        x.block(0, 1);
        check.due("drive(5), robot blocked", x.drive(5), 0);
        check.due("where()", x.where(), 0);
    }

    private static void where() {
        check.part("promise 14");
        CostmapNavigator x = new CostmapNavigator();
        check.due("where()", x.where(), 0);
        for (int c = 0; c < 81; c++) {
            x.place(c);
            check.due("where()", x.where(), c);
        }
        x.goal(77);
        check.due("where()", x.where(), 80);
        x.drive(2);
        check.due("where()", x.where(), 78);
        x.block(78, 1);
        check.due("where()", x.where(), 78);
    }

    private static void moves() {
        check.part("promise 15");
        CostmapNavigator x = new CostmapNavigator();
        check.due("moves()", x.moves(), 16);
        check.due("where() after moves()", x.where(), 0);
        x.goal(0);
        check.due("moves() on the goal", x.moves(), 0);
        x.block(0, 1);
        check.due("moves() on the blocked goal", x.moves(), NONE);
        x.goal(80);
        check.due("moves(), robot blocked", x.moves(), NONE);
        x.block(0, 0);
        x.block(80, 1);
        check.due("moves(), goal blocked", x.moves(), NONE);
        x.block(80, 0);
        x.wall(36, 0, 9);
        check.due("moves(), a wall between", x.moves(), NONE);
        x = Grids.detour();
        check.due("moves() by the detour", x.moves(), 10);
        x = Grids.snake();
        check.due("moves(), more than drive does", x.moves(), 48);
    }

    /** Two ways of the price 4, one of 2 moves and one of 4: next() decides. */
    private static void movesFollowNext() {
        check.part("promise 15, ways of one price");
        CostmapNavigator x = new CostmapNavigator();
        x.tune(1, 2);
        x.block(4, 1);
        x.place(13);
        x.goal(15);
        check.due("distance()", x.distance(), 4);
        check.due("next(), right before below", x.next(), 1);
        check.due("moves(), the short way", x.moves(), 2);
        x.block(4, 0);
        x.block(76, 1);
        x.place(67);
        x.goal(69);
        check.due("distance()", x.distance(), 4);
        check.due("next(), above before right", x.next(), 0);
        check.due("moves(), the long way", x.moves(), 4);
        check.due("drive(40), the long way", x.drive(40), 4);
    }

    private static void reached() {
        check.part("promise 16");
        CostmapNavigator x = new CostmapNavigator();
        check.due("reached()", x.reached(), 81);
        x.block(40, 1);
        check.due("reached(), one blocked", x.reached(), 80);
        x.place(40);
        check.due("reached(), robot blocked", x.reached(), 80);
        x.wall(5, 1, 9);
        check.due("reached(), right of the wall", x.reached(), 27);
        x.goal(0);
        check.due("reached(), left of the wall", x.reached(), 44);
        x.block(1, 1);
        x.block(9, 1);
        check.due("reached(), the goal alone", x.reached(), 1);
        x.block(0, 1);
        check.due("reached(), goal blocked", x.reached(), 0);
        check.due("reached() in the long way", Grids.snake().reached(), 49);
    }

    private static void farthest() {
        check.part("promise 17");
        CostmapNavigator x = new CostmapNavigator();
        check.due("farthest()", x.farthest(), 16);
        x.goal(40);
        check.due("farthest(), goal in the middle", x.farthest(), 8);
        x.goal(0);
        x.block(1, 1);
        x.block(9, 1);
        check.due("farthest(), the goal alone", x.farthest(), 0);
        x.block(0, 1);
        check.due("farthest(), goal blocked", x.farthest(), NONE);
        check.due("farthest() in the long way", Grids.snake().farthest(), 192);
        x = new CostmapNavigator();
        x.wall(1, 1, 9);
        x.goal(0);
        check.due("farthest() in one column", x.farthest(), 32);
        x.goal(72);
        x.block(36, 1);
        check.due("farthest() in half a column", x.farthest(), 12);
    }

    private static void badArgumentBeforeNone() {
        check.part("promise 18");
        CostmapNavigator x = Grids.full();
        check.due("cost(80), all blocked", x.cost(80), NONE);
        check.due("distanceFrom(80), all blocked", x.distanceFrom(80), NONE);
        for (int c : NO_CELLS) {
            check.due("cost(" + c + "), all blocked", x.cost(c), BAD_ARG);
            check.due("distanceFrom(" + c + "), all blocked", x.distanceFrom(c), BAD_ARG);
        }
        check.due("reached()", x.reached(), 0);
        check.due("farthest()", x.farthest(), NONE);
    }

    private static void lastCalls() {
        check.part("512 calls");
        CostmapNavigator x = new CostmapNavigator();
        for (int i = 0; i < 127; i++) {
            x.block(1, 1);
            x.drive(40);
            x.place(0);
            x.block(1, 0);
        }
        check.due("call 509, distance()", x.distance(), 16);
        check.due("call 510, next()", x.next(), 1);
        check.due("call 511, drive(40)", x.drive(40), 16);
        check.due("call 512, where()", x.where(), 80);
    }

    private static void dueNext(int from, int to, int want) {
        CostmapNavigator x = new CostmapNavigator();
        x.place(from);
        x.goal(to);
        check.due("next() from " + from + " to " + to, x.next(), want);
    }

    /** All that the object answers without being changed. */
    private static String picture(CostmapNavigator x) {
        StringBuilder text = new StringBuilder();
        text.append(x.where()).append(' ').append(x.distance()).append(' ').append(x.next());
        text.append(' ').append(x.moves()).append(' ').append(x.reached()).append(' ').append(x.farthest());
        for (int c = 0; c < 81; c++) {
            text.append(' ').append(x.cost(c)).append(' ').append(x.distanceFrom(c));
        }
        return text.toString();
    }
}
