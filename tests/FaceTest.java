import java.lang.reflect.Constructor;
import java.lang.reflect.Field;
import java.lang.reflect.Method;
import java.lang.reflect.Modifier;
import java.util.ArrayList;
import java.util.Collections;
import java.util.List;

/** The public face, and that there is nothing beside it. */
public final class FaceTest {
    private static final String NO_SUCH = " IndexOutOfBoundsException";
    private static final String OUT_OF_RANGE = " IllegalArgumentException";
    private static final String RULED_OUT = " UnsupportedOperationException";
    private static final String NOT_NOW = " IllegalStateException";
    private static final String NO_FIGURE = " ArithmeticException";

    public static void main(String[] args) {
        Check check = new Check("the public face");
        check.due(Modifier.PUBLIC | Modifier.FINAL, "the class's modifiers", () -> FolderKeeper.class.getModifiers());
        check.due(dueFace(), "the members that are not private", () -> face());
        check.end();
    }

    private static List<String> dueFace() {
        List<String> due = new ArrayList<>(List.of(
            "FolderKeeper()",
            "int addAccount()" + NOT_NOW,
            "int setHeir(int int)" + NO_SUCH + OUT_OF_RANGE,
            "int addGroup()" + NOT_NOW,
            "int join(int int int)" + NO_SUCH + OUT_OF_RANGE + RULED_OUT,
            "int nest(int int int)" + NO_SUCH + OUT_OF_RANGE + RULED_OUT,
            "int drop(int int)" + NO_SUCH + " NoSuchElementException",
            "boolean isIn(int int)" + NO_SUCH,
            "int memberships()",
            "int addFolder(int int)" + NO_SUCH + RULED_OUT + NOT_NOW,
            "int shareWith(int int int)" + NO_SUCH + OUT_OF_RANGE + NOT_NOW,
            "int shareWithGroup(int int int)" + NO_SUCH + OUT_OF_RANGE + NOT_NOW,
            "boolean setBroken(int boolean)" + NO_SUCH + NOT_NOW,
            "int owner(int)" + NO_SUCH,
            "int right(int int)" + NO_SUCH,
            "int rightByWalking(int int)" + NO_SUCH,
            "int holders(int int)" + NO_SUCH + OUT_OF_RANGE,
            "int addRoom(int)" + NO_SUCH + NOT_NOW,
            "boolean reads(int int)" + NO_SUCH,
            "int readers(int)" + NO_SUCH,
            "int keeper(int)" + NO_SUCH,
            "int leave(int)" + NO_SUCH + RULED_OUT + NOT_NOW,
            "int hold(int)" + NO_SUCH + NOT_NOW,
            "int release(int)" + NO_SUCH + NOT_NOW,
            "int pass(int)" + OUT_OF_RANGE,
            "int day()",
            "int active()",
            "float openShare()" + NO_FIGURE,
            "double meanOwned()" + NO_FIGURE));
        Collections.sort(due);
        return due;
    }

    private static List<String> face() {
        List<String> face = new ArrayList<>();
        for (Constructor<?> one : FolderKeeper.class.getDeclaredConstructors()) {
            face.add("FolderKeeper(" + names(one.getParameterTypes()) + ")" + thrown(one.getExceptionTypes()));
        }
        for (Method one : FolderKeeper.class.getDeclaredMethods()) {
            if (!Modifier.isPrivate(one.getModifiers()) && !one.isSynthetic()) {
                String start = Modifier.isPublic(one.getModifiers()) ? "" : "not public: ";
                face.add(start + one.getReturnType().getSimpleName() + " " + one.getName() + "("
                    + names(one.getParameterTypes()) + ")" + thrown(one.getExceptionTypes()));
            }
        }
        for (Field one : FolderKeeper.class.getDeclaredFields()) {
            if (!Modifier.isPrivate(one.getModifiers())) {
                face.add("field " + one.getName());
            }
        }
        Collections.sort(face);
        return face;
    }

    private static String names(Class<?>[] types) {
        List<String> names = new ArrayList<>();
        for (Class<?> one : types) {
            names.add(one.getSimpleName());
        }
        return String.join(" ", names);
    }

    private static String thrown(Class<?>[] types) {
        return types.length == 0 ? "" : " " + names(types);
    }
}
