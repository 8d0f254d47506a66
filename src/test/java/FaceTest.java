import java.lang.reflect.Constructor;
import java.lang.reflect.Field;
import java.lang.reflect.Method;
import java.lang.reflect.Modifier;
import java.util.Set;
import java.util.TreeSet;

/** The public face: just what the document lists, and no other member that is not private. */
public final class FaceTest {
    private static final String[] FACE = {
        "public int park(int,boolean,int,int) IllegalArgumentException IllegalStateException",
        "public void ramp(int,int) IllegalArgumentException IllegalStateException",
        "public void drive(int,int) IndexOutOfBoundsException IllegalArgumentException IllegalStateException",
        "public int driveOn(int,boolean) IndexOutOfBoundsException",
        "public void restart()",
        "public int vehicles()",
        "public int rowOf(int) IndexOutOfBoundsException",
        "public int columnOf(int) IndexOutOfBoundsException",
        "public int at(int,int) IllegalArgumentException",
        "public int freeWay(int,boolean) IndexOutOfBoundsException",
        "public int inTheWay()",
        "public boolean isSolved()",
        "public int moves()",
        "public int driven()",
        "public int positions()",
        "public int fewestMoves()",
        "public int hint()",
        "public int solve()",
        "public boolean canReach(int,int) IndexOutOfBoundsException IllegalArgumentException",
    };

    public static void main(String[] args) {
        Check check = new Check();
        Class<?> face = RampJam.class;
        check.due("modifiers", Modifier.toString(face.getModifiers()), "public final");
        check.due("constructors", face.getDeclaredConstructors().length, 1);
        for (Constructor<?> constructor : face.getDeclaredConstructors()) {
            check.due("constructor", constructor.toString(), "public RampJam()");
        }
        Set<String> want = new TreeSet<>(Set.of(FACE));
        Set<String> got = new TreeSet<>();
        for (Method method : face.getDeclaredMethods()) {
            if (!Modifier.isPrivate(method.getModifiers()) && !method.isSynthetic()) {
                got.add(told(method));
            }
        }
        check.due("methods", String.join("; ", got), String.join("; ", want));
        for (Field field : face.getDeclaredFields()) {
            check.due("field " + field.getName() + " private", Modifier.isPrivate(field.getModifiers()), true);
        }
        check.due("object above", face.getSuperclass() == Object.class && face.getInterfaces().length == 0, true);
        check.end();
    }

    private static String told(Method method) {
        StringBuilder text = new StringBuilder(Modifier.toString(method.getModifiers()));
        text.append(' ').append(method.getReturnType()).append(' ').append(method.getName()).append('(');
        String between = "";
        for (Class<?> type : method.getParameterTypes()) {
            text.append(between).append(type);
            between = ",";
        }
        text.append(')');
        for (Class<?> type : method.getExceptionTypes()) {
            text.append(' ').append(type.getSimpleName());
        }
        return text.toString();
    }
}
