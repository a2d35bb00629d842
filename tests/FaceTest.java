import java.io.IOException;
import java.lang.reflect.Constructor;
import java.lang.reflect.Field;
import java.lang.reflect.Method;
import java.lang.reflect.Modifier;
import java.nio.file.Files;
import java.nio.file.Path;
import java.util.ArrayList;
import java.util.Collections;
import java.util.List;

/** The public face, that there is nothing beside it, and what the interface says ahead of its calls. */
public final class FaceTest {
    private static final String NO_SUCH = " IndexOutOfBoundsException";
    private static final String OUT_OF_RANGE = " IllegalArgumentException";
    private static final String RULED_OUT = " UnsupportedOperationException";
    private static final String NOT_NOW = " IllegalStateException";
    private static final String NO_FIGURE = " ArithmeticException";

    private static final Path PROGRAM = Path.of("src", "main", "java", "FolderKeeper.java");

    public static void main(String[] args) throws IOException {
        List<String> lines = Files.readAllLines(PROGRAM);
        Check check = new Check("the public face");
        check.due(Modifier.PUBLIC | Modifier.FINAL, "the class's modifiers", () -> FolderKeeper.class.getModifiers());
        check.due(dueFace(), "the members that are not private", () -> face());
        check.due(dueHeadings(), "the calls under their headings", () -> headings(lines));
        check.end();
    }

    private static List<String> dueHeadings() {
        List<String> due = new ArrayList<>(List.of(": FolderKeeper"));
        addUnder(due, "---- accounts and groups", "addAccount setHeir addGroup join nest drop isIn memberships");
        addUnder(due, "---- folders and shares",
            "addFolder shareWith shareWithGroup setBroken owner right rightByWalking holders");
        addUnder(due, "---- rooms", "addRoom reads readers");
        addUnder(due, "---- leaving, holds and days", "keeper leave hold release pass day active");
        addUnder(due, "---- figures", "openShare meanOwned");
        return due;
    }

    private static void addUnder(List<String> due, String heading, String calls) {
        for (String call : calls.split(" ")) {
            due.add(heading + ": " + call);
        }
    }

    /** The public members of the class in the order of its lines, each behind the heading above it. */
    private static List<String> headings(List<String> lines) {
        List<String> told = new ArrayList<>();
        String heading = "";
        for (String line : lines) {
            int open = line.indexOf('(');
            if (line.startsWith("    // ----")) {
                heading = line.substring(line.indexOf("----"));
            } else if (line.startsWith("    public ") && open >= 0) {
                told.add(heading + ": " + line.substring(line.lastIndexOf(' ', open) + 1, open));
            }
        }
        return told;
    }

    private static List<String> dueFace() {
        List<String> due = new ArrayList<>(List.of(
            "FolderKeeper()",
            "int addAccount()" + NOT_NOW,
            "int setHeir(int int)" + NO_SUCH + OUT_OF_RANGE,
            "int addGroup()" + NOT_NOW,
            "int join(int int int)" + NO_SUCH + OUT_OF_RANGE + RULED_OUT,
            "int nest(int int int)" + NO_SUCH + OUT_OF_RANGE + RULED_OUT,
            "int drop(int int)" + NO_SUCH + " NoSuchElementException",
            "boolean isIn(int int)" + NO_SUCH,
            "int memberships()",
            "int addFolder(int int)" + NO_SUCH + RULED_OUT + NOT_NOW,
            "int shareWith(int int int)" + NO_SUCH + OUT_OF_RANGE + NOT_NOW,
            "int shareWithGroup(int int int)" + NO_SUCH + OUT_OF_RANGE + NOT_NOW,
            "boolean setBroken(int boolean)" + NO_SUCH + NOT_NOW,
            "int owner(int)" + NO_SUCH,
            "int right(int int)" + NO_SUCH,
            "int rightByWalking(int int)" + NO_SUCH,
            "int holders(int int)" + NO_SUCH + OUT_OF_RANGE,
            "int addRoom(int)" + NO_SUCH + NOT_NOW,
            "boolean reads(int int)" + NO_SUCH,
            "int readers(int)" + NO_SUCH,
            "int keeper(int)" + NO_SUCH,
            "int leave(int)" + NO_SUCH + RULED_OUT + NOT_NOW,
            "int hold(int)" + NO_SUCH + NOT_NOW,
            "int release(int)" + NO_SUCH + NOT_NOW,
            "int pass(int)" + OUT_OF_RANGE,
            "int day()",
            "int active()",
            "float openShare()" + NO_FIGURE,
            "double meanOwned()" + NO_FIGURE));
        Collections.sort(due);
        return due;
    }

    private static List<String> face() {
        List<String> face = new ArrayList<>();
        for (Constructor<?> one : FolderKeeper.class.getDeclaredConstructors()) {
            face.add("FolderKeeper(" + names(one.getParameterTypes()) + ")" + thrown(one.getExceptionTypes()));
        }
        for (Method one : FolderKeeper.class.getDeclaredMethods()) {
            if (!Modifier.isPrivate(one.getModifiers()) && !one.isSynthetic()) {
                String start = Modifier.isPublic(one.getModifiers()) ? "" : "not public: ";
                face.add(start + one.getReturnType().getSimpleName() + " " + one.getName() + "("
                    + names(one.getParameterTypes()) + ")" + thrown(one.getExceptionTypes()));
            }
        }
        for (Field one : FolderKeeper.class.getDeclaredFields()) {
            if (!Modifier.isPrivate(one.getModifiers())) {
                face.add("field " + one.getName());
            }
        }
        Collections.sort(face);
        return face;
    }

    private static String names(Class<?>[] types) {
        List<String> names = new ArrayList<>();
        for (Class<?> one : types) {
            names.add(one.getSimpleName());
        }
        return String.join(" ", names);
    }

    private static String thrown(Class<?>[] types) {
        return types.length == 0 ? "" : " " + names(types);
    }
}
