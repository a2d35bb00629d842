/** Promises 10 to 17. */
public final class FoldersAndSharesTest {
    private static final Class<IndexOutOfBoundsException> NO_SUCH = IndexOutOfBoundsException.class;
    private static final Class<IllegalArgumentException> OUT_OF_RANGE = IllegalArgumentException.class;
    private static final Class<UnsupportedOperationException> RULED_OUT = UnsupportedOperationException.class;
    private static final Class<IllegalStateException> NOT_NOW = IllegalStateException.class;

    private static final Check check = new Check("promises 10 to 17");

    public static void main(String[] args) {
        addFolder();
        shareWith();
        shareWithGroup();
        setBroken();
        owner();
        rightOfShares();
        rightOfGroups();
        rightHandedDown();
        rightOverLongChains();
        rightWrong();
        holders();
        check.end();
    }

    private static void dueRight(FolderKeeper x, int want, int account, int folder) {
        String told = "(" + account + ", " + folder + ")";
        check.due(want, "right" + told, () -> x.right(account, folder));
        check.due(want, "rightByWalking" + told, () -> x.rightByWalking(account, folder));
    }

    private static void addFolder() {
        FolderKeeper x = Make.with(2, 1);
        x.leave(2);
        check.fails(x, NO_SUCH, "addFolder(3, -1)", () -> x.addFolder(3, -1));
        check.fails(x, NO_SUCH, "addFolder(-1, -1)", () -> x.addFolder(-1, -1));
        check.fails(x, NO_SUCH, "addFolder(1, 0)", () -> x.addFolder(1, 0));
        check.fails(x, NO_SUCH, "addFolder(1, -2)", () -> x.addFolder(1, -2));
        check.fails(x, NO_SUCH, "a leaver's addFolder without its parent", () -> x.addFolder(2, 0));
        check.fails(x, RULED_OUT, "a leaver's addFolder", () -> x.addFolder(2, -1));
        for (int folder = 0; folder < 12; folder++) {
            int last = folder;
            check.due(folder, "addFolder", () -> x.addFolder(1, last - 1));
            check.due(0, "shares of a new folder", () -> x.shareWith(last, 0, 0));
        }
        check.due(false, "a new folder is broken", () -> x.setBroken(11, false));
        check.fails(x, NO_SUCH, "addFolder(1, 12)", () -> x.addFolder(1, 12));
        check.fails(x, RULED_OUT, "a leaver's addFolder to 12", () -> x.addFolder(2, 11));
        check.fails(x, NOT_NOW, "addFolder to 12", () -> x.addFolder(1, 11));
        check.fails(x, NOT_NOW, "addFolder to 12 without a parent", () -> x.addFolder(0, -1));
    }

    private static void shareWith() {
        FolderKeeper x = Make.with(3, 1);
        x.addFolder(1, -1);
        x.addFolder(1, 0);
        check.due(1, "shareWith(0, 2, 1)", () -> x.shareWith(0, 2, 1));
        dueRight(x, 1, 2, 0);
        check.due(1, "shareWith(0, 2, 2)", () -> x.shareWith(0, 2, 2));
        dueRight(x, 2, 2, 0);
        check.due(1, "shareWith(0, 2, 1) again", () -> x.shareWith(0, 2, 1));
        dueRight(x, 1, 2, 0);
        check.due(2, "shareWith the owner", () -> x.shareWith(0, 1, 1));
        check.due(2, "shareWith none", () -> x.shareWith(0, 3, 0));
        x.shareWithGroup(0, 0, 1);
        x.leave(3);
        check.due(4, "shareWith a leaver", () -> x.shareWith(0, 3, 2));
        dueRight(x, 0, 3, 0);
        check.due(1, "shareWith of the folder below", () -> x.shareWith(1, 0, 1));
        check.due(3, "shareWith(0, 2, 0)", () -> x.shareWith(0, 2, 0));
        dueRight(x, 0, 2, 0);
        check.fails(x, NO_SUCH, "shareWith(2, 1, 1)", () -> x.shareWith(2, 1, 1));
        check.fails(x, NO_SUCH, "shareWith(-1, 1, 1)", () -> x.shareWith(-1, 1, 1));
        check.fails(x, NO_SUCH, "shareWith(0, 4, 1)", () -> x.shareWith(0, 4, 1));
        check.fails(x, NO_SUCH, "shareWith(0, -1, 1)", () -> x.shareWith(0, -1, 1));
        check.fails(x, OUT_OF_RANGE, "shareWith(0, 2, 3)", () -> x.shareWith(0, 2, 3));
        check.fails(x, OUT_OF_RANGE, "shareWith(0, 2, -1)", () -> x.shareWith(0, 2, -1));
        x.hold(0);
        check.fails(x, NO_SUCH, "shareWith(0, 4, 3) held", () -> x.shareWith(0, 4, 3));
        check.fails(x, OUT_OF_RANGE, "shareWith(0, 2, 3) held", () -> x.shareWith(0, 2, 3));
        check.fails(x, NOT_NOW, "shareWith(0, 2, 1) held", () -> x.shareWith(0, 2, 1));
        check.fails(x, NOT_NOW, "shareWith(0, 2, 0) held", () -> x.shareWith(0, 2, 0));
        x.release(0);
        check.due(4, "shareWith(0, 2, 1) released", () -> x.shareWith(0, 2, 1));
    }

    private static void shareWithGroup() {
        FolderKeeper x = Make.with(2, 3);
        x.join(2, 1, -1);
        x.addFolder(1, -1);
        x.addFolder(1, 0);
        check.due(1, "shareWithGroup(0, 1, 2)", () -> x.shareWithGroup(0, 1, 2));
        dueRight(x, 2, 2, 0);
        check.due(1, "shareWithGroup(0, 1, 1)", () -> x.shareWithGroup(0, 1, 1));
        dueRight(x, 1, 2, 0);
        check.due(2, "shareWith beside a group of its number", () -> x.shareWith(0, 1, 1));
        check.due(3, "shareWithGroup(0, 2, 2)", () -> x.shareWithGroup(0, 2, 2));
        check.due(3, "shareWithGroup none", () -> x.shareWithGroup(0, 0, 0));
        check.due(2, "shareWithGroup(0, 1, 0)", () -> x.shareWithGroup(0, 1, 0));
        dueRight(x, 0, 2, 0);
        check.fails(x, NO_SUCH, "shareWithGroup(2, 0, 1)", () -> x.shareWithGroup(2, 0, 1));
        check.fails(x, NO_SUCH, "shareWithGroup(-1, 0, 1)", () -> x.shareWithGroup(-1, 0, 1));
        check.fails(x, NO_SUCH, "shareWithGroup(0, 3, 1)", () -> x.shareWithGroup(0, 3, 1));
        check.fails(x, NO_SUCH, "shareWithGroup(0, -1, 1)", () -> x.shareWithGroup(0, -1, 1));
        check.fails(x, OUT_OF_RANGE, "shareWithGroup(0, 0, 3)", () -> x.shareWithGroup(0, 0, 3));
        check.fails(x, OUT_OF_RANGE, "shareWithGroup(0, 0, -1)", () -> x.shareWithGroup(0, 0, -1));
        x.hold(0);
        check.fails(x, NO_SUCH, "shareWithGroup(0, 3, 3) held", () -> x.shareWithGroup(0, 3, 3));
        check.fails(x, OUT_OF_RANGE, "shareWithGroup(0, 0, 3) held", () -> x.shareWithGroup(0, 0, 3));
        check.fails(x, NOT_NOW, "shareWithGroup(0, 0, 1) held", () -> x.shareWithGroup(0, 0, 1));
        check.fails(x, NOT_NOW, "shareWithGroup(0, 0, 0) held", () -> x.shareWithGroup(0, 0, 0));
        check.due(1, "shareWithGroup below a held one", () -> x.shareWithGroup(1, 0, 1));
    }

    private static void setBroken() {
        FolderKeeper x = Make.with(2, 0);
        x.addFolder(1, -1);
        x.addFolder(1, 0);
        x.shareWith(0, 2, 1);
        check.due(false, "setBroken(1, true)", () -> x.setBroken(1, true));
        dueRight(x, 0, 2, 1);
        check.due(true, "setBroken(1, true) again", () -> x.setBroken(1, true));
        check.due(true, "setBroken(1, false)", () -> x.setBroken(1, false));
        dueRight(x, 1, 2, 1);
        check.due(false, "setBroken(1, false) again", () -> x.setBroken(1, false));
        check.due(false, "setBroken of another folder", () -> x.setBroken(0, true));
        dueRight(x, 1, 2, 0);
        dueRight(x, 1, 2, 1);
        check.fails(x, NO_SUCH, "setBroken(2, true)", () -> x.setBroken(2, true));
        check.fails(x, NO_SUCH, "setBroken(-1, true)", () -> x.setBroken(-1, true));
        x.hold(1);
        check.fails(x, NOT_NOW, "setBroken(1, true) held", () -> x.setBroken(1, true));
        check.fails(x, NOT_NOW, "setBroken(1, false) held", () -> x.setBroken(1, false));
        check.fails(x, NO_SUCH, "setBroken(2, true) beside a held one", () -> x.setBroken(2, true));
        check.due(true, "setBroken above a held one", () -> x.setBroken(0, false));
    }

    private static void owner() {
        FolderKeeper x = Make.with(2, 0);
        x.addFolder(2, -1);
        x.addFolder(0, 0);
        check.due(2, "owner(0)", () -> x.owner(0));
        check.due(0, "owner(1)", () -> x.owner(1));
        x.setHeir(2, 1);
        x.leave(2);
        check.due(1, "owner(0) after its leaving", () -> x.owner(0));
        check.fails(x, NO_SUCH, "owner(2)", () -> x.owner(2));
        check.fails(x, NO_SUCH, "owner(-1)", () -> x.owner(-1));
    }

    private static void rightOfShares() {
        FolderKeeper x = Make.with(3, 1);
        x.addFolder(1, -1);
        dueRight(x, 3, 1, 0);
        dueRight(x, 0, 0, 0);
        dueRight(x, 0, 2, 0);
        x.shareWith(0, 1, 1);
        dueRight(x, 3, 1, 0);
        x.shareWith(0, 2, 1);
        x.shareWith(0, 3, 2);
        x.shareWith(0, 0, 1);
        dueRight(x, 1, 2, 0);
        dueRight(x, 2, 3, 0);
        dueRight(x, 1, 0, 0);
        x.join(2, 0, -1);
        x.join(3, 0, -1);
        x.shareWithGroup(0, 0, 2);
        dueRight(x, 2, 2, 0);
        x.shareWithGroup(0, 0, 1);
        dueRight(x, 2, 3, 0);
        x.hold(0);
        x.leave(3);
        dueRight(x, 0, 3, 0);
        x.leave(1);
        check.due(1, "owner of a held folder", () -> x.owner(0));
        dueRight(x, 0, 1, 0);
        x.release(0);
        dueRight(x, 3, 0, 0);
    }

    private static void rightOfGroups() {
        FolderKeeper x = Make.with(3, 6);
        x.addFolder(0, -1);
        x.join(1, 5, -1);
        x.join(2, 2, 7);
        x.nest(5, 4, -1);
        x.nest(4, 2, 5);
        x.nest(2, 3, -1);
        x.shareWithGroup(0, 3, 1);
        x.shareWithGroup(0, 4, 2);
        dueRight(x, 2, 1, 0);
        dueRight(x, 1, 2, 0);
        dueRight(x, 0, 3, 0);
        x.shareWithGroup(0, 4, 0);
        dueRight(x, 1, 1, 0);
        x.shareWithGroup(0, 1, 2);
        dueRight(x, 1, 1, 0);
        x.pass(5);
        dueRight(x, 0, 1, 0);
        dueRight(x, 1, 2, 0);
        x.pass(2);
        dueRight(x, 0, 2, 0);
    }

    private static void rightHandedDown() {
        FolderKeeper x = Make.with(4, 1);
        x.join(4, 0, -1);
        x.addFolder(1, -1);
        x.addFolder(2, 0);
        x.addFolder(1, 1);
        x.addFolder(1, 0);
        x.shareWith(0, 3, 1);
        x.shareWith(1, 3, 2);
        x.shareWithGroup(1, 0, 1);
        x.shareWithGroup(0, 0, 2);
        dueRight(x, 1, 3, 0);
        dueRight(x, 2, 3, 1);
        dueRight(x, 2, 3, 2);
        dueRight(x, 1, 3, 3);
        dueRight(x, 2, 4, 0);
        dueRight(x, 2, 4, 2);
        // What is owned is not handed down, and neither are shares handed up or aside.
        dueRight(x, 0, 2, 2);
        dueRight(x, 0, 1, 1);
        x.shareWith(2, 2, 1);
        dueRight(x, 1, 2, 2);
        dueRight(x, 0, 2, 0);
        dueRight(x, 0, 2, 3);
        x.setBroken(1, true);
        dueRight(x, 2, 3, 2);
        dueRight(x, 1, 4, 1);
        dueRight(x, 1, 4, 2);
        dueRight(x, 2, 4, 3);
        x.setBroken(2, true);
        dueRight(x, 0, 3, 2);
        dueRight(x, 2, 3, 1);
        x.hold(2);
        x.setBroken(1, false);
        dueRight(x, 0, 4, 2);
        dueRight(x, 2, 4, 1);
        x.setBroken(0, true);
        dueRight(x, 2, 4, 3);
    }

    private static void rightOverLongChains() {
        FolderKeeper x = Make.with(3, 6);
        for (int folder = 0; folder < 12; folder++) {
            x.addFolder(0, folder - 1);
        }
        for (int group = 0; group < 5; group++) {
            x.nest(group, group + 1, -1);
        }
        x.join(1, 0, -1);
        x.shareWithGroup(0, 5, 1);
        x.shareWith(0, 2, 2);
        dueRight(x, 1, 1, 11);
        dueRight(x, 2, 2, 11);
        dueRight(x, 0, 3, 11);
        x.setBroken(6, true);
        dueRight(x, 1, 1, 5);
        dueRight(x, 0, 2, 6);
        dueRight(x, 0, 1, 11);
    }

    private static void rightWrong() {
        FolderKeeper x = Make.with(1, 0);
        x.addFolder(1, -1);
        check.fails(x, NO_SUCH, "right(2, 0)", () -> x.right(2, 0));
        check.fails(x, NO_SUCH, "right(-1, 0)", () -> x.right(-1, 0));
        check.fails(x, NO_SUCH, "right(0, 1)", () -> x.right(0, 1));
        check.fails(x, NO_SUCH, "right(0, -1)", () -> x.right(0, -1));
        check.fails(x, NO_SUCH, "rightByWalking(2, 0)", () -> x.rightByWalking(2, 0));
        check.fails(x, NO_SUCH, "rightByWalking(-1, 0)", () -> x.rightByWalking(-1, 0));
        check.fails(x, NO_SUCH, "rightByWalking(0, 1)", () -> x.rightByWalking(0, 1));
        check.fails(x, NO_SUCH, "rightByWalking(0, -1)", () -> x.rightByWalking(0, -1));
    }

    private static void dueHolders(FolderKeeper x, int folder, int reading, int writing, int owning) {
        check.due(reading, "holders(" + folder + ", 1)", () -> x.holders(folder, 1));
        check.due(writing, "holders(" + folder + ", 2)", () -> x.holders(folder, 2));
        check.due(owning, "holders(" + folder + ", 3)", () -> x.holders(folder, 3));
    }

    private static void holders() {
        FolderKeeper x = Make.with(4, 1);
        x.addFolder(1, -1);
        x.addFolder(2, 0);
        dueHolders(x, 0, 1, 1, 1);
        x.shareWith(0, 0, 1);
        x.shareWith(0, 1, 2);
        x.join(3, 0, -1);
        x.join(4, 0, -1);
        x.shareWithGroup(0, 0, 2);
        dueHolders(x, 0, 4, 3, 1);
        dueHolders(x, 1, 5, 4, 1);
        x.leave(4);
        dueHolders(x, 0, 3, 2, 1);
        x.hold(1);
        x.leave(2);
        dueHolders(x, 1, 3, 2, 0);
        check.fails(x, NO_SUCH, "holders(2, 1)", () -> x.holders(2, 1));
        check.fails(x, NO_SUCH, "holders(-1, 1)", () -> x.holders(-1, 1));
        check.fails(x, NO_SUCH, "holders(2, 0)", () -> x.holders(2, 0));
        check.fails(x, OUT_OF_RANGE, "holders(0, 0)", () -> x.holders(0, 0));
        check.fails(x, OUT_OF_RANGE, "holders(0, 4)", () -> x.holders(0, 4));
    }
}
