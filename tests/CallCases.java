/** Cases that several calls have alike: in their rows, CALL stands for the one whose promise is tested. */
abstract class CallCases extends Cases {
    private final String call;

    CallCases(String call) {
        this.call = call;
    }

    final void dueOfCall(String... rows) {
        due(String.join("\n", rows).replace("CALL", call));
    }
}
