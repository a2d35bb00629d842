import java.util.ArrayList;
import java.util.List;

/** All that calls can tell of an object: what the looking calls answer, and what its further life shows. */
final class Traces {
    private static final List<List<Call>> PROBES = List.of(looks(), rights(), leavings(), shares(), days(), limits());

    private Traces() {
    }

    /** What each probe answers after these calls; every probe gets an object of its own. */
    static List<String> after(List<Call> calls) {
        List<String> told = new ArrayList<>();
        for (List<Call> probe : PROBES) {
            Subject subject = new Subject();
            for (Call call : calls) {
                subject.answerOf(call);
            }
            for (Call call : probe) {
                told.add(call + " = " + subject.answerOf(call));
            }
        }
        return told;
    }

    private static void add(List<Call> calls, String call, Object... arguments) {
        calls.add(Call.of(String.format(call, arguments)));
    }

    private static List<Call> looks() {
        List<Call> calls = new ArrayList<>();
        for (String call : List.of("day()", "active()", "memberships()", "openShare()", "meanOwned()")) {
            add(calls, call);
        }
        for (int folder = 0; folder < 12; folder++) {
            add(calls, "owner(%d)", folder);
            add(calls, "keeper(%d)", folder);
            for (int right = 1; right <= 3; right++) {
                add(calls, "holders(%d, %d)", folder, right);
            }
        }
        for (int room = 0; room < 4; room++) {
            add(calls, "readers(%d)", room);
        }
        for (int account = 0; account < 10; account++) {
            for (int room = 0; room < 4; room++) {
                add(calls, "reads(%d, %d)", account, room);
            }
            for (int group = 0; group < 6; group++) {
                add(calls, "isIn(%d, %d)", account, group);
            }
        }
        return calls;
    }

    private static List<Call> rights() {
        List<Call> calls = new ArrayList<>();
        for (int account = 0; account < 10; account++) {
            for (int folder = 0; folder < 12; folder++) {
                add(calls, "right(%d, %d)", account, folder);
                add(calls, "rightByWalking(%d, %d)", account, folder);
            }
        }
        return calls;
    }

    private static List<Call> leavings() {
        List<Call> calls = new ArrayList<>();
        for (int folder = 0; folder < 12; folder++) {
            add(calls, "hold(%d)", folder);
        }
        for (int account = 1; account < 10; account++) {
            add(calls, "leave(%d)", account);
        }
        for (int account = 0; account < 10; account++) {
            add(calls, "setHeir(%d, -1)", account);
        }
        for (int folder = 0; folder < 12; folder++) {
            add(calls, "release(%d)", folder);
        }
        return calls;
    }

    private static List<Call> shares() {
        List<Call> calls = new ArrayList<>();
        for (int folder = 0; folder < 12; folder++) {
            add(calls, "release(%d)", folder);
            add(calls, "setBroken(%d, false)", folder);
            for (int account = 0; account < 10; account++) {
                add(calls, "shareWith(%d, %d, 0)", folder, account);
            }
            for (int group = 0; group < 6; group++) {
                add(calls, "shareWithGroup(%d, %d, 0)", folder, group);
            }
        }
        return calls;
    }

    private static List<Call> days() {
        List<Call> calls = new ArrayList<>();
        for (int day = 0; day < 40; day++) {
            add(calls, "pass(1)");
            add(calls, "memberships()");
        }
        for (int times = 0; times < 10; times++) {
            add(calls, "pass(99)");
        }
        for (int day = 0; day < 20; day++) {
            add(calls, "pass(1)");
        }
        add(calls, "day()");
        return calls;
    }

    private static List<Call> limits() {
        List<Call> calls = new ArrayList<>();
        for (int times = 0; times < 13; times++) {
            add(calls, "addAccount()");
            add(calls, "addGroup()");
            add(calls, "addFolder(0, %d)", times - 1);
            add(calls, "addRoom(0)");
        }
        for (int group = 0; group < 6; group++) {
            for (int account = 0; account < 10; account++) {
                add(calls, "drop(%d, %d)", account, group);
            }
        }
        return calls;
    }
}
