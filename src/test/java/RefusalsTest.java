import java.util.ArrayList;
import java.util.LinkedHashMap;
import java.util.List;
import java.util.Map;
import java.util.function.Supplier;
import java.util.function.ToIntFunction;

/**
 * "A refused call answers the code named and changes nothing": after each
 * refused call, in several states, every later answer is the one that an
 * object without that call gives.
 */
public final class RefusalsTest {
    private record Refused(String text, int code, ToIntFunction<CostmapNavigator> run) {
    }

    private record Other(String text, ToIntFunction<CostmapNavigator> run) {
    }

    private static final int BAD_ARG = Edges.BAD_ARG;
    private static final int NONE = Edges.NONE;
    private static final int[] ANY_NUMBERS = {0, 1, -1, 9, 10, Edges.LEAST, Edges.GREATEST};

    private static final Check check = new Check();

    public static void main(String[] args) {
        List<Refused> refused = new ArrayList<>();
        addRefusedChanges(refused);
        addRefusedQuestions(refused);
        for (Map.Entry<String, Supplier<CostmapNavigator>> state : states().entrySet()) {
            check.part("refused, " + state.getKey());
            dueUnchanged(state.getValue(), refused);
        }
        check.part("refused calls among others");
        dueUnchangedAmongOthers(refused);
        check.part("no such thing, the goal blocked");
        dueUnchanged(() -> Grids.of(0, 80, 0, 40, 80), callsWithoutAnswer());
        check.part("no such thing, all blocked");
        dueUnchanged(Grids::full, callsWithoutAnswer());
        check.end();
    }

    private static Map<String, Supplier<CostmapNavigator>> states() {
        Map<String, Supplier<CostmapNavigator>> states = new LinkedHashMap<>();
        states.put("new object", CostmapNavigator::new);
        states.put("all blocked", Grids::full);
        states.put("no way", Grids::halves);
        states.put("robot blocked", () -> Grids.of(31, 80, 31, 33));
        states.put("robot on the goal", () -> Grids.of(80, 80, 0, 40));
        states.put("in the middle of a drive", () -> {
            CostmapNavigator x = Grids.snake();
            x.tune(3, 9);
            x.drive(20);
            return x;
        });
        return states;
    }

    private static void addRefusedChanges(List<Refused> calls) {
        for (int c : Edges.NO_CELLS) {
            calls.add(new Refused("place(" + c + ")", BAD_ARG, x -> x.place(c)));
            calls.add(new Refused("goal(" + c + ")", BAD_ARG, x -> x.goal(c)));
            for (int a : ANY_NUMBERS) {
                calls.add(new Refused("block(" + c + ", " + a + ")", BAD_ARG, x -> x.block(c, a)));
                calls.add(new Refused("wall(" + c + ", 0, " + a + ")", BAD_ARG, x -> x.wall(c, 0, a)));
                calls.add(new Refused("wall(" + c + ", " + a + ", -9)", BAD_ARG, x -> x.wall(c, a, -9)));
            }
        }
        for (int n : Edges.NO_LENGTHS) {
            calls.add(new Refused("wall(0, 0, " + n + ")", BAD_ARG, x -> x.wall(0, 0, n)));
            calls.add(new Refused("wall(0, 1, " + n + ")", BAD_ARG, x -> x.wall(0, 1, n)));
            calls.add(new Refused("wall(80, 0, " + n + ")", BAD_ARG, x -> x.wall(80, 0, n)));
            calls.add(new Refused("wall(40, " + n + ", " + n + ")", BAD_ARG, x -> x.wall(40, n, n)));
        }
        for (int r : Edges.NO_RADII) {
            for (int g : new int[] {0, 9, 10, Edges.LEAST}) {
                calls.add(new Refused("tune(" + r + ", " + g + ")", BAD_ARG, x -> x.tune(r, g)));
            }
        }
        for (int g : Edges.NO_GAINS) {
            for (int r : new int[] {0, 3}) {
                calls.add(new Refused("tune(" + r + ", " + g + ")", BAD_ARG, x -> x.tune(r, g)));
            }
        }
    }

    private static void addRefusedQuestions(List<Refused> calls) {
        for (int c : Edges.NO_CELLS) {
            calls.add(new Refused("blocked(" + c + ")", 0, x -> x.blocked(c) ? 1 : 0));
            calls.add(new Refused("clearance(" + c + ")", BAD_ARG, x -> x.clearance(c)));
            calls.add(new Refused("cost(" + c + ")", BAD_ARG, x -> x.cost(c)));
            calls.add(new Refused("distanceFrom(" + c + ")", BAD_ARG, x -> x.distanceFrom(c)));
        }
        for (int n : new int[] {0, -1, Edges.LEAST}) {
            calls.add(new Refused("drive(" + n + ")", 0, x -> x.drive(n)));
        }
    }

    /** Calls for which there is nothing while the goal and the cells 0 and 40 are blocked. */
    private static List<Refused> callsWithoutAnswer() {
        return List.of(
                new Refused("cost(0)", NONE, x -> x.cost(0)),
                new Refused("cost(40)", NONE, x -> x.cost(40)),
                new Refused("cost(80)", NONE, x -> x.cost(80)),
                new Refused("distance()", NONE, CostmapNavigator::distance),
                new Refused("distanceFrom(0)", NONE, x -> x.distanceFrom(0)),
                new Refused("distanceFrom(79)", NONE, x -> x.distanceFrom(79)),
                new Refused("distanceFrom(80)", NONE, x -> x.distanceFrom(80)),
                new Refused("next()", NONE, CostmapNavigator::next),
                new Refused("moves()", NONE, CostmapNavigator::moves),
                new Refused("farthest()", NONE, CostmapNavigator::farthest),
                new Refused("reached()", 0, CostmapNavigator::reached),
                new Refused("drive(1)", 0, x -> x.drive(1)),
                new Refused("drive(greatest)", 0, x -> x.drive(Edges.GREATEST)));
    }

    private static void dueUnchanged(Supplier<CostmapNavigator> state, List<Refused> calls) {
        List<String> due = laterAnswers(state.get());
        for (Refused call : calls) {
            CostmapNavigator x = state.get();
            check.due(call.text, call.run.applyAsInt(x), call.code);
            dueSame(call.text, laterAnswers(x), due);
        }
    }

    /** A run of other calls, with three refused ones before each of them. */
    private static void dueUnchangedAmongOthers(List<Refused> refused) {
        List<Other> others = new ArrayList<>();
        for (int i = 0; i < 12; i++) {
            addOtherCalls(others, i);
        }
        int turn = 0;
        for (int start = 0; start < refused.size(); start += 3 * others.size()) {
            CostmapNavigator plain = new CostmapNavigator();
            CostmapNavigator disturbed = new CostmapNavigator();
            for (Other other : others) {
                for (int i = 0; i < 3; i++) {
                    Refused call = refused.get(turn++ % refused.size());
                    check.due(call.text, call.run.applyAsInt(disturbed), call.code);
                }
                check.due(other.text, other.run.applyAsInt(disturbed), other.run.applyAsInt(plain));
            }
        }
    }

    private static void addOtherCalls(List<Other> calls, int i) {
        int a = 37 * i % 81;
        int b = (53 * i + 11) % 81;
        calls.add(new Other("block(" + a + ", 1)", x -> x.block(a, 1)));
        calls.add(new Other("wall(" + b + ", " + i % 2 + ", 4)", x -> x.wall(b, i % 2, 4)));
        calls.add(new Other("tune(" + i % 4 + ", " + i % 10 + ")", x -> x.tune(i % 4, i % 10)));
        calls.add(new Other("distance()", CostmapNavigator::distance));
        calls.add(new Other("farthest()", CostmapNavigator::farthest));
        calls.add(new Other("drive(" + i + ")", x -> x.drive(i)));
        calls.add(new Other("where()", CostmapNavigator::where));
        calls.add(new Other("wall(" + b + ", " + i % 2 + ", -3)", x -> x.wall(b, i % 2, -3)));
        calls.add(new Other("goal(" + (80 - a) + ")", x -> x.goal(80 - a)));
        calls.add(new Other("moves()", CostmapNavigator::moves));
    }

    /** Takes some 380 calls: what the object answers, first unchanged and then through further changes. */
    private static List<String> laterAnswers(CostmapNavigator x) {
        List<String> answers = new ArrayList<>();
        addRobotAnswers(answers, x);
        for (int c = 0; c < 81; c++) {
            answers.add("blocked(" + c + ") " + x.blocked(c));
            answers.add("clearance(" + c + ") " + x.clearance(c));
            answers.add("cost(" + c + ") " + x.cost(c));
            answers.add("distanceFrom(" + c + ") " + x.distanceFrom(c));
        }
        answers.add("drive(3) " + x.drive(3));
        addRobotAnswers(answers, x);
        for (int row = 0; row < 9; row++) {
            answers.add("wall(" + 9 * row + ", 0, -9) " + x.wall(9 * row, 0, -9));
        }
        // One obstacle on a free grid shows the radius and the gain.
        answers.add("block(40, 1) " + x.block(40, 1));
        for (int c = 41; c <= 44; c++) {
            answers.add("cost(" + c + ") " + x.cost(c));
        }
        addRobotAnswers(answers, x);
        answers.add("drive(40) " + x.drive(40));
        answers.add("place(38) " + x.place(38));
        answers.add("goal(42) " + x.goal(42));
        addRobotAnswers(answers, x);
        answers.add("tune(2, 4) " + x.tune(2, 4));
        addRobotAnswers(answers, x);
        return answers;
    }

    private static void addRobotAnswers(List<String> answers, CostmapNavigator x) {
        answers.add("where() " + x.where());
        answers.add("distance() " + x.distance());
        answers.add("next() " + x.next());
        answers.add("moves() " + x.moves());
        answers.add("reached() " + x.reached());
        answers.add("farthest() " + x.farthest());
    }

    private static void dueSame(String call, List<String> got, List<String> due) {
        for (int i = 0; i < due.size(); i++) {
            check.due("a later answer after " + call, got.get(i), due.get(i));
        }
    }
}
