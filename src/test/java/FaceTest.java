import java.lang.reflect.Constructor;
import java.lang.reflect.Field;
import java.lang.reflect.Method;
import java.lang.reflect.Modifier;
import java.util.Arrays;
import java.util.Set;
import java.util.TreeSet;

/** The public face: constants, constructor, methods with their throws clauses, and nothing besides. */
public final class FaceTest {
    private static final String BOUNDS = " IndexOutOfBoundsException";
    private static final String ARGUMENT = " IllegalArgumentException";
    private static final String STATE = " IllegalStateException";

    public static void main(String[] args) throws IllegalAccessException {
        Due due = new Due("FaceTest");
        due.same("constants", constants().toString(), new TreeSet<>(Arrays.asList(
                "NONE=-1", "STREET=0", "HALL=1", "PLATFORM=2", "DOOR=0", "STAIR=1", "LIFT=2", "MOVING=3", "GATE=4",
                "WAITS=0", "ON_WAY=1", "GONE=2", "OUT=3")).toString());
        due.same("methods", methods().toString(), new TreeSet<>(Arrays.asList(
                "int room(int int)" + ARGUMENT + STATE,
                "int link(int int int int int)" + BOUNDS + ARGUMENT + STATE,
                "boolean close(int boolean)" + BOUNDS,
                "int announce()",
                "boolean turn(int)" + BOUNDS + ARGUMENT,
                "boolean stop(int boolean)" + BOUNDS + ARGUMENT,
                "int meter(int int)" + BOUNDS + ARGUMENT,
                "int enter(int int boolean boolean int)" + BOUNDS + ARGUMENT + STATE,
                "int train(int int int int int)" + BOUNDS + ARGUMENT + STATE,
                "int clear()",
                "int pass(int)" + ARGUMENT,
                "int now()",
                "int ofRoom(int int)" + BOUNDS + ARGUMENT,
                "int ofLink(int int)" + BOUNDS + ARGUMENT,
                "int person(int int)" + BOUNDS + ARGUMENT,
                "int ofTrain(int int)" + BOUNDS + ARGUMENT,
                "int foretell(int int)" + BOUNDS + ARGUMENT,
                "int clears()",
                "int alone(int)" + BOUNDS,
                "int aloneAnew(int)" + BOUNDS)).toString());
        Constructor<?>[] made = CrushLoad.class.getDeclaredConstructors();
        due.is("constructors", made.length, 1);
        due.is("the constructor's arguments", made[0].getParameterCount(), 0);
        due.is("the constructor is public", Modifier.isPublic(made[0].getModifiers()), true);
        due.is("the class is public and final", CrushLoad.class.getModifiers(), Modifier.PUBLIC | Modifier.FINAL);
        due.is("members that are neither public nor private", between(), 0);
        due.end();
    }

    private static Set<String> constants() throws IllegalAccessException {
        Set<String> found = new TreeSet<>();
        for (Field field : CrushLoad.class.getFields()) {
            if (field.getModifiers() == (Modifier.PUBLIC | Modifier.STATIC | Modifier.FINAL)) {
                found.add(field.getName() + "=" + field.getInt(null));
            } else {
                found.add("not a constant: " + field.getName());
            }
        }
        return found;
    }

    private static Set<String> methods() {
        Set<String> found = new TreeSet<>();
        for (Method method : CrushLoad.class.getDeclaredMethods()) {
            if (Modifier.isPublic(method.getModifiers())) {
                StringBuilder text = new StringBuilder(method.getReturnType() + " " + method.getName() + "(");
                for (int i = 0; i < method.getParameterCount(); i++) {
                    text.append(i == 0 ? "" : " ").append(method.getParameterTypes()[i]);
                }
                text.append(")");
                for (Class<?> thrown : method.getExceptionTypes()) {
                    text.append(" ").append(thrown.getSimpleName());
                }
                found.add(text.toString());
            }
        }
        return found;
    }

    private static int between() {
        int found = 0;
        for (Method method : CrushLoad.class.getDeclaredMethods()) {
            found += (method.getModifiers() & (Modifier.PUBLIC | Modifier.PRIVATE)) == 0 && !method.isSynthetic() ? 1 : 0;
        }
        for (Field field : CrushLoad.class.getDeclaredFields()) {
            found += (field.getModifiers() & (Modifier.PUBLIC | Modifier.PRIVATE)) == 0 && !field.isSynthetic() ? 1 : 0;
        }
        return found;
    }
}
