import java.util.function.LongSupplier;

/**
 * Long runs of mixed calls, each answer held against a second, slower telling
 * of the document (Model). The calls come from a fixed sequence of numbers, so
 * every run of this test does the same.
 */
public final class ModelTest {
    private static final int RUNS = 60;
    private static final int CALLS = 512;
    private static final int[] ODD_NUMBERS = {Integer.MIN_VALUE, -82, -10, -1, 10, 81, 90, Integer.MAX_VALUE};

    private static final Check check = new Check();
    private static long state = 20261115L;

    public static void main(String[] args) {
        for (int run = 0; run < RUNS && check.wrong() == 0; run++) {
            check.part("run " + run);
            // Runs differ in how crowded the grid gets.
            mixedRun(new CostmapNavigator(), new Model(), run % 5);
        }
        check.end();
    }

    private static void mixedRun(CostmapNavigator x, Model m, int crowd) {
        for (int call = 0; call < CALLS && check.wrong() == 0; call++) {
            if (number(3) == 0) {
                changingCall(x, m, crowd);
            } else {
                askingCall(x, m);
            }
        }
    }

    private static void changingCall(CostmapNavigator x, Model m, int crowd) {
        int c = cell();
        int on = number(5) < crowd ? number(3) - 1 : 0;
        int down = number(4) - 1;
        int n = number(30) == 0 ? odd() : number(5) < crowd ? number(10) : -number(10);
        int r = number(20) == 0 ? odd() : number(5) - (number(9) == 0 ? 1 : 0);
        int g = number(20) == 0 ? odd() : number(11);
        int steps = number(10) == 0 ? odd() : number(20) - 1;
        switch (number(8)) {
            case 0, 1 -> same("block(" + c + ", " + on + ")", () -> x.block(c, on), () -> m.block(c, on));
            case 2, 3 -> same("wall(" + c + ", " + down + ", " + n + ")",
                    () -> x.wall(c, down, n), () -> m.wall(c, down, n));
            case 4 -> same("tune(" + r + ", " + g + ")", () -> x.tune(r, g), () -> m.tune(r, g));
            case 5 -> same("place(" + c + ")", () -> x.place(c), () -> m.place(c));
            case 6 -> same("goal(" + c + ")", () -> x.goal(c), () -> m.goal(c));
            default -> same("drive(" + steps + ")", () -> x.drive(steps), () -> m.drive(steps));
        }
    }

    private static void askingCall(CostmapNavigator x, Model m) {
        int c = cell();
        switch (number(10)) {
            case 0 -> same("blocked(" + c + ")", () -> x.blocked(c) ? 1 : 0, () -> m.blocked(c) ? 1 : 0);
            case 1 -> same("clearance(" + c + ")", () -> x.clearance(c), () -> m.clearance(c));
            case 2 -> same("cost(" + c + ")", () -> x.cost(c), () -> m.cost(c));
            case 3 -> same("distance()", x::distance, () -> m.distanceFrom(m.robot));
            case 4 -> same("distanceFrom(" + c + ")", () -> x.distanceFrom(c), () -> m.distanceFrom(c));
            case 5 -> same("next()", x::next, () -> m.next(m.robot));
            case 6 -> same("where()", x::where, () -> m.robot);
            case 7 -> same("moves()", x::moves, m::moves);
            case 8 -> same("reached()", x::reached, m::reached);
            default -> same("farthest()", x::farthest, m::farthest);
        }
    }

    private static void same(String call, LongSupplier got, LongSupplier want) {
        check.due(call, got.getAsLong(), want.getAsLong());
    }

    private static int cell() {
        return number(25) == 0 ? odd() : number(81);
    }

    private static int odd() {
        return ODD_NUMBERS[number(ODD_NUMBERS.length)];
    }

    private static int number(int below) {
        state ^= state << 13;
        state ^= state >>> 7;
        state ^= state << 17;
        return (int) Long.remainderUnsigned(state, below);
    }
}
