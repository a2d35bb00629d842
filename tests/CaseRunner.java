import java.lang.reflect.Constructor;
import java.lang.reflect.InvocationTargetException;
import java.lang.reflect.Method;
import java.lang.reflect.Modifier;
import java.util.ArrayList;
import java.util.Comparator;
import java.util.List;

/** Runs all cases of the classes that are named to it; ends with exit code 1 if one fails, or if a class has none. */
public final class CaseRunner {
    private int ran;
    private int failed;

    public static void main(String[] names) throws ReflectiveOperationException {
        CaseRunner runner = new CaseRunner();
        for (String name : names) {
            Class<?> type = Class.forName(name);
            if (!Modifier.isAbstract(type.getModifiers())) {
                runner.runAllOf(type);
            }
        }
        System.out.println((runner.ran - runner.failed) + " of " + runner.ran + " cases hold");
        if (runner.failed != 0 || runner.ran == 0) {
            System.exit(1);
        }
    }

    private void runAllOf(Class<?> type) throws ReflectiveOperationException {
        List<Method> cases = casesOf(type);
        if (cases.isEmpty()) {
            fail(type.getName() + " has no cases");
        }
        Constructor<?> constructor = type.getDeclaredConstructor();
        for (Method one : cases) {
            ran++;
            try {
                one.invoke(constructor.newInstance());
            } catch (InvocationTargetException e) {
                fail(type.getName() + ", " + one.getName() + ": " + e.getCause());
            }
        }
    }

    private void fail(String told) {
        failed++;
        System.out.println(told);
    }

    private static List<Method> casesOf(Class<?> type) {
        List<Method> cases = new ArrayList<>();
        for (Class<?> one = type; one != Cases.class; one = one.getSuperclass()) {
            for (Method method : one.getDeclaredMethods()) {
                boolean isCase = method.getParameterCount() == 0 && method.getReturnType() == void.class;
                if (isCase && !Modifier.isPrivate(method.getModifiers()) && !method.isSynthetic()) {
                    cases.add(method);
                }
            }
        }
        cases.sort(Comparator.comparing(Method::getName));
        return cases;
    }
}
