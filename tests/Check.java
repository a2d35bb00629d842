import java.util.Objects;

/** Counts the answers that are not as due, and ends the run with exit code 1 if there are any. */
final class Check {
    interface Call {
        Object answer();
    }

    private final String promise;
    private int wrong;
    private int looked;

    Check(String promise) {
        this.promise = promise;
    }

    /** What a call answers; an exception is answered by its name. */
    static Object answerOf(Call call) {
        try {
            return call.answer();
        } catch (RuntimeException e) {
            return "throws." + e.getClass().getSimpleName();
        }
    }

    void due(Object want, String told, Call call) {
        looked++;
        Object got = answerOf(call);
        if (!Objects.equals(want, got)) {
            wrong++;
            System.out.println(promise + ": " + told + " answered " + got + ", due is " + want);
        }
    }

    void end() {
        System.out.println(promise + ": " + (looked - wrong) + " of " + looked + " answers are as due");
        if (wrong != 0) {
            System.exit(1);
        }
    }
}
