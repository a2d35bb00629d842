/** Systems with which the tests begin. */
final class Make {
    private Make() {
    }

    /** The warden and as many others, and as many groups. */
    static FolderKeeper with(int others, int groups) {
        FolderKeeper x = new FolderKeeper();
        for (int i = 0; i < others; i++) {
            x.addAccount();
        }
        for (int i = 0; i < groups; i++) {
            x.addGroup();
        }
        return x;
    }
}
