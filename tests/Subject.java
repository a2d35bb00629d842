/** A FolderKeeper that takes no more calls than the document promises answers for. */
final class Subject {
    private static final int MOST_CALLS = 512;

    private final FolderKeeper keeper = new FolderKeeper();
    private int calls;

    Object answerOf(Call call) {
        calls++;
        if (calls > MOST_CALLS) {
            throw new IllegalStateException("the test makes more than " + MOST_CALLS + " calls on an object");
        }
        return call.answerOf(keeper);
    }
}
