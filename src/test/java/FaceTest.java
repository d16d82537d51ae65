import java.lang.reflect.Constructor;
import java.lang.reflect.Field;
import java.lang.reflect.Method;
import java.lang.reflect.Modifier;
import java.util.TreeSet;

/** The class has the public face of the document, and nothing else that is not private. */
public final class FaceTest {
    private static final String[] FACE = {
        "public static final int CostmapNavigator.BAD_ARG",
        "public static final int CostmapNavigator.NONE",
        "public CostmapNavigator()",
        "public int CostmapNavigator.block(int,int)",
        "public int CostmapNavigator.wall(int,int,int)",
        "public int CostmapNavigator.tune(int,int)",
        "public int CostmapNavigator.place(int)",
        "public int CostmapNavigator.goal(int)",
        "public boolean CostmapNavigator.blocked(int)",
        "public int CostmapNavigator.clearance(int)",
        "public int CostmapNavigator.cost(int)",
        "public int CostmapNavigator.distance()",
        "public int CostmapNavigator.distanceFrom(int)",
        "public int CostmapNavigator.next()",
        "public int CostmapNavigator.drive(int)",
        "public int CostmapNavigator.where()",
        "public int CostmapNavigator.moves()",
        "public int CostmapNavigator.reached()",
        "public int CostmapNavigator.farthest()",
    };

    public static void main(String[] args) {
        Check check = new Check();
        check.part("face");
        TreeSet<String> want = new TreeSet<>();
        for (String member : FACE) {
            want.add(member);
        }
        check.due("the face", String.join("\n  ", visibleMembers()), String.join("\n  ", want));
        check.due("the class", Modifier.toString(CostmapNavigator.class.getModifiers()), "public final");
        check.due("nested classes", CostmapNavigator.class.getDeclaredClasses().length, 0);
        check.due("BAD_ARG", CostmapNavigator.BAD_ARG, -1);
        check.due("NONE", CostmapNavigator.NONE, -4);
        check.end();
    }

    private static TreeSet<String> visibleMembers() {
        TreeSet<String> found = new TreeSet<>();
        for (Field field : CostmapNavigator.class.getDeclaredFields()) {
            if (!Modifier.isPrivate(field.getModifiers())) {
                found.add(field.toString());
            }
        }
        for (Constructor<?> constructor : CostmapNavigator.class.getDeclaredConstructors()) {
            found.add(constructor.toString());
        }
        for (Method method : CostmapNavigator.class.getDeclaredMethods()) {
            if (!Modifier.isPrivate(method.getModifiers())) {
                found.add(method.toString());
            }
        }
        return found;
    }
}
