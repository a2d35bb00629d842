/** Promises 28 and 29. */
public final class FiguresTest {
    private static final Class<ArithmeticException> NO_FIGURE = ArithmeticException.class;

    private static final Check check = new Check("promises 28 and 29");

    public static void main(String[] args) {
        openShare();
        meanOwned();
        check.end();
    }

    private static void openShare() {
        FolderKeeper x = Make.with(2, 1);
        check.fails(x, NO_FIGURE, "openShare without folders", () -> x.openShare());
        x.addFolder(1, -1);
        check.due(1f / 3f, "openShare of an owner among 3", () -> x.openShare());
        x.addFolder(2, 0);
        x.addFolder(2, -1);
        x.shareWith(0, 0, 1);
        check.due(5f / 9f, "openShare with a share handed down", () -> x.openShare());
        x.setBroken(1, true);
        check.due(4f / 9f, "openShare with it broken", () -> x.openShare());
        x.join(1, 0, 5);
        x.shareWithGroup(2, 0, 2);
        check.due(5f / 9f, "openShare with a group", () -> x.openShare());
        x.hold(0);
        x.leave(1);
        check.due(3f / 6f, "openShare after one has left", () -> x.openShare());
        x.hold(1);
        x.hold(2);
        x.shareWith(x.addFolder(0, -1), 2, 0);
        x.leave(2);
        check.due(2f / 4f, "openShare of the warden alone", () -> x.openShare());
        FolderKeeper held = Make.with(1, 0);
        held.addFolder(1, -1);
        held.hold(0);
        held.leave(1);
        check.due(0f, "openShare of a leaver's folder", () -> held.openShare());
    }

    private static void meanOwned() {
        FolderKeeper x = Make.with(3, 0);
        check.fails(x, NO_FIGURE, "meanOwned without folders", () -> x.meanOwned());
        x.addFolder(1, -1);
        check.due(1.0, "meanOwned of one", () -> x.meanOwned());
        x.addFolder(2, -1);
        x.addFolder(2, -1);
        x.addFolder(2, -1);
        check.due(2.0, "meanOwned of two", () -> x.meanOwned());
        x.addFolder(3, -1);
        check.due(5.0 / 3.0, "meanOwned of three", () -> x.meanOwned());
        x.hold(0);
        x.leave(1);
        check.due(2.0, "meanOwned without a leaver's held folder", () -> x.meanOwned());
        for (int folder = 1; folder < 5; folder++) {
            x.hold(folder);
        }
        x.leave(2);
        x.leave(3);
        check.fails(x, NO_FIGURE, "meanOwned of held folders of leavers", () -> x.meanOwned());
        x.release(4);
        check.due(1.0, "meanOwned of the warden", () -> x.meanOwned());
    }
}
