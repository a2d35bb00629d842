import java.util.ArrayList;
import java.util.List;

/**
 * A run of calls on a new object, told in rows: a call, and behind " = " the answer that is due. A row without an
 * answer prepares: it only must not throw. "3 * " in front of a call makes it thrice.
 *
 * Beside its answer, each call that is refused, or that only looks, is tested to change nothing.
 */
final class Run {
    private final Subject subject = new Subject();
    private final List<Call> changes = new ArrayList<>();
    private List<String> traces;

    static void of(String... rows) {
        Run run = new Run();
        for (String row : String.join("\n", rows).split("[;\n]")) {
            if (!row.isBlank()) {
                run.row(row.strip());
            }
        }
    }

    private void row(String row) {
        int times = 1;
        String rest = row;
        int star = row.indexOf(" * ");
        if (star >= 0) {
            times = Integer.parseInt(row.substring(0, star));
            rest = row.substring(star + 3);
        }
        int sign = rest.indexOf(" = ");
        Call call = Call.of(sign < 0 ? rest : rest.substring(0, sign));
        for (int i = 0; i < times; i++) {
            Object answer = subject.answerOf(call);
            boolean isRefused = String.valueOf(answer).startsWith(Call.THROWS);
            if (sign < 0 ? isRefused : !Answers.isAsTold(answer, rest.substring(sign + 3))) {
                throw new AssertionError("[" + row + "] answered " + answer);
            }
            if (isRefused || call.isLook()) {
                requireNoChange(call);
            } else {
                changes.add(call);
                traces = null;
            }
        }
    }

    private void requireNoChange(Call call) {
        if (traces == null) {
            traces = Traces.after(changes);
        }
        List<Call> calls = new ArrayList<>(changes);
        calls.add(call);
        List<String> got = Traces.after(calls);
        for (int i = 0; i < traces.size(); i++) {
            if (!traces.get(i).equals(got.get(i))) {
                throw new AssertionError("[" + call + "] changed [" + traces.get(i) + "] to [" + got.get(i) + "]");
            }
        }
    }
}
