/** Promises 21 to 27. */
public final class LeavingHoldsAndDaysTest {
    private static final Class<IndexOutOfBoundsException> NO_SUCH = IndexOutOfBoundsException.class;
    private static final Class<IllegalArgumentException> OUT_OF_RANGE = IllegalArgumentException.class;
    private static final Class<UnsupportedOperationException> RULED_OUT = UnsupportedOperationException.class;
    private static final Class<IllegalStateException> NOT_NOW = IllegalStateException.class;

    private static final Check check = new Check("promises 21 to 27");

    public static void main(String[] args) {
        keeperByHeirs();
        keeperByParents();
        keeperOfTheWarden();
        keeperWhoseOwnerHasLeft();
        leave();
        leaveWithHolds();
        leaveKeepsSharesAndMemberships();
        leaveWrong();
        hold();
        release();
        pass();
        dayAndActive();
        check.end();
    }

    private static void dueKeeper(FolderKeeper x, int want, int folder) {
        check.due(want, "keeper(" + folder + ")", () -> x.keeper(folder));
    }

    private static void dueOwners(FolderKeeper x, int... want) {
        for (int folder = 0; folder < want.length; folder++) {
            int one = folder;
            check.due(want[folder], "owner(" + folder + ")", () -> x.owner(one));
        }
    }

    private static void keeperByHeirs() {
        FolderKeeper x = Make.with(5, 0);
        x.addFolder(5, -1);
        x.addFolder(1, 0);
        dueKeeper(x, 5, 1);
        x.setHeir(1, 2);
        x.setHeir(2, 3);
        x.setHeir(3, 4);
        dueKeeper(x, 2, 1);
        x.leave(2);
        dueKeeper(x, 3, 1);
        x.leave(3);
        dueKeeper(x, 4, 1);
        x.setHeir(3, 0);
        dueKeeper(x, 0, 1);
        x.setHeir(3, 2);
        dueKeeper(x, 5, 1);
        x.setHeir(3, 1);
        dueKeeper(x, 5, 1);
        x.hold(1);
        dueKeeper(x, 5, 1);
        dueKeeper(x, 0, 0);
        dueOwners(x, 5, 1);
        check.due(4, "active", () -> x.active());
        check.fails(x, NO_SUCH, "keeper(2)", () -> x.keeper(2));
        check.fails(x, NO_SUCH, "keeper(-1)", () -> x.keeper(-1));
    }

    private static void keeperByParents() {
        FolderKeeper x = Make.with(3, 0);
        x.addFolder(2, -1);
        x.addFolder(1, 0);
        x.addFolder(1, 1);
        x.addFolder(1, 2);
        x.addFolder(1, -1);
        x.addFolder(1, 4);
        x.addFolder(3, 4);
        x.addFolder(1, 6);
        dueKeeper(x, 2, 1);
        dueKeeper(x, 2, 2);
        dueKeeper(x, 2, 3);
        dueKeeper(x, 0, 4);
        dueKeeper(x, 0, 5);
        dueKeeper(x, 1, 6);
        dueKeeper(x, 3, 7);
        x.hold(1);
        dueKeeper(x, 2, 1);
        dueKeeper(x, 0, 2);
        dueKeeper(x, 0, 3);
        x.hold(3);
        dueKeeper(x, 0, 3);
        x.release(1);
        dueKeeper(x, 2, 3);
        x.hold(6);
        x.leave(3);
        dueKeeper(x, 0, 7);
        check.due(5, "leave(1)", () -> x.leave(1));
        dueOwners(x, 2, 2, 2, 1, 0, 0, 3, 0);
        check.due(2, "release(3)", () -> x.release(3));
        check.due(0, "release(6)", () -> x.release(6));
    }

    private static void keeperOfTheWarden() {
        FolderKeeper x = Make.with(3, 0);
        x.addFolder(2, -1);
        x.addFolder(0, 0);
        x.addFolder(0, 1);
        x.addFolder(0, -1);
        x.addFolder(0, 3);
        dueKeeper(x, 2, 1);
        dueKeeper(x, 2, 2);
        dueKeeper(x, 0, 3);
        dueKeeper(x, 0, 4);
        x.hold(1);
        dueKeeper(x, 2, 1);
        dueKeeper(x, 0, 2);
        x.release(1);
        x.setHeir(0, 1);
        dueKeeper(x, 1, 1);
        dueKeeper(x, 1, 3);
        x.leave(1);
        dueKeeper(x, 2, 1);
        dueKeeper(x, 0, 3);
        x.setHeir(1, 3);
        dueKeeper(x, 3, 1);
        dueKeeper(x, 3, 4);
        // The warden would have left: a chain that comes back to it goes on to the parent.
        x.setHeir(1, 0);
        dueKeeper(x, 2, 1);
        dueKeeper(x, 0, 3);
        dueOwners(x, 2, 0, 0, 0, 0);
        check.due(3, "active", () -> x.active());
    }

    private static void keeperWhoseOwnerHasLeft() {
        FolderKeeper x = Make.with(3, 0);
        x.addFolder(2, -1);
        x.addFolder(1, 0);
        x.addFolder(1, 1);
        x.hold(1);
        x.hold(2);
        x.leave(1);
        dueKeeper(x, 2, 1);
        dueKeeper(x, 0, 2);
        check.due(2, "release(1)", () -> x.release(1));
        dueKeeper(x, 2, 2);
        x.setHeir(1, 3);
        dueKeeper(x, 3, 2);
        x.leave(3);
        dueKeeper(x, 2, 2);
        x.hold(1);
        x.leave(2);
        dueKeeper(x, 0, 2);
        dueOwners(x, 0, 2, 1);
    }

    private static void leave() {
        FolderKeeper x = Make.with(5, 0);
        x.addFolder(1, -1);
        x.addFolder(2, 0);
        x.addFolder(1, 1);
        x.addFolder(3, 2);
        check.due(0, "leave of one without folders", () -> x.leave(5));
        check.due(4, "active", () -> x.active() - 1);
        x.setHeir(1, 5);
        x.setHeir(5, 4);
        check.due(2, "leave(1)", () -> x.leave(1));
        dueOwners(x, 4, 2, 4, 3);
        check.due(1, "leave(3)", () -> x.leave(3));
        dueOwners(x, 4, 2, 4, 4);
        x.setHeir(4, 1);
        check.due(3, "leave(4), whose heirs come back", () -> x.leave(4));
        dueOwners(x, 0, 2, 2, 2);
        check.due(3, "leave(2)", () -> x.leave(2));
        dueOwners(x, 0, 0, 0, 0);
        check.due(1, "active", () -> x.active());
    }

    private static void leaveWithHolds() {
        FolderKeeper x = Make.with(3, 0);
        x.setHeir(1, 2);
        x.addFolder(1, -1);
        x.addFolder(1, 0);
        x.addFolder(1, 1);
        x.hold(1);
        check.due(2, "leave(1) with a hold", () -> x.leave(1));
        dueOwners(x, 2, 1, 2);
        check.due(2, "leave(2)", () -> x.leave(2));
        dueOwners(x, 0, 1, 0);
    }

    private static void leaveKeepsSharesAndMemberships() {
        FolderKeeper x = Make.with(2, 2);
        x.addFolder(2, -1);
        x.addRoom(1);
        x.join(1, 0, -1);
        x.nest(0, 1, -1);
        x.shareWith(0, 1, 2);
        x.shareWithGroup(0, 1, 1);
        x.leave(1);
        check.due(2, "memberships", () -> x.memberships());
        check.due(2, "shares", () -> x.shareWith(0, 0, 0));
        check.due(true, "isIn", () -> x.isIn(1, 1));
        check.due(0, "right", () -> x.right(1, 0));
        check.due(0, "rightByWalking", () -> x.rightByWalking(1, 0));
        check.due(1, "holders", () -> x.holders(0, 1));
        check.due(false, "reads", () -> x.reads(1, 0));
        check.due(true, "reads of the warden", () -> x.reads(0, 0));
    }

    private static void leaveWrong() {
        FolderKeeper x = Make.with(2, 0);
        x.addFolder(1, -1);
        check.fails(x, NO_SUCH, "leave(3)", () -> x.leave(3));
        check.fails(x, NO_SUCH, "leave(-1)", () -> x.leave(-1));
        check.fails(x, RULED_OUT, "leave(0)", () -> x.leave(0));
        x.leave(2);
        check.fails(x, NOT_NOW, "leave(2) twice", () -> x.leave(2));
    }

    private static void hold() {
        FolderKeeper x = Make.with(2, 0);
        x.addFolder(1, -1);
        x.addFolder(1, 0);
        x.addFolder(1, 1);
        check.due(1, "hold(1)", () -> x.hold(1));
        check.due(2, "hold(2)", () -> x.hold(2));
        check.fails(x, NOT_NOW, "hold(1) twice", () -> x.hold(1));
        check.fails(x, NO_SUCH, "hold(3)", () -> x.hold(3));
        check.fails(x, NO_SUCH, "hold(-1)", () -> x.hold(-1));
        check.due(1, "release(1)", () -> x.release(1));
        check.due(2, "hold(0)", () -> x.hold(0));
        check.due(3, "hold(1) again", () -> x.hold(1));
        check.due(3, "addFolder below a held one", () -> x.addFolder(2, 0));
    }

    private static void release() {
        FolderKeeper x = Make.with(3, 0);
        x.addFolder(1, -1);
        x.addFolder(2, 0);
        check.fails(x, NO_SUCH, "release(2)", () -> x.release(2));
        check.fails(x, NO_SUCH, "release(-1)", () -> x.release(-1));
        check.fails(x, NOT_NOW, "release(0)", () -> x.release(0));
        x.setHeir(1, 3);
        x.setHeir(2, 1);
        x.hold(0);
        x.hold(1);
        check.due(1, "release(0) of an active owner", () -> x.release(0));
        check.fails(x, NOT_NOW, "release(0) twice", () -> x.release(0));
        x.hold(0);
        x.leave(1);
        x.leave(2);
        dueOwners(x, 1, 2);
        check.due(3, "release(1) to the heir's heir", () -> x.release(1));
        x.setHeir(1, -1);
        check.due(0, "release(0) without heirs", () -> x.release(0));
        dueOwners(x, 0, 3);
        check.due(1, "hold(0) again", () -> x.hold(0));
    }

    private static void pass() {
        FolderKeeper x = Make.with(3, 3);
        check.fails(x, OUT_OF_RANGE, "pass(0)", () -> x.pass(0));
        check.fails(x, OUT_OF_RANGE, "pass(-1)", () -> x.pass(-1));
        check.fails(x, OUT_OF_RANGE, "pass(100)", () -> x.pass(100));
        check.fails(x, OUT_OF_RANGE, "pass of very many", () -> x.pass(Integer.MAX_VALUE));
        x.join(1, 0, 1);
        x.join(2, 0, 2);
        x.join(3, 0, -1);
        x.nest(0, 1, 2);
        x.nest(1, 2, 3);
        x.join(2, 2, 999);
        check.due(1, "pass to 1", () -> x.pass(1));
        check.due(3, "pass to 3", () -> x.pass(2));
        check.due(2, "memberships", () -> x.memberships());
        check.due(0, "pass to 102", () -> x.pass(99));
        x.leave(2);
        for (int i = 0; i < 9; i++) {
            check.due(0, "pass(99)", () -> x.pass(99));
        }
        check.due(993, "day", () -> x.day());
        check.fails(x, OUT_OF_RANGE, "pass to 1000", () -> x.pass(7));
        check.due(0, "pass to 998", () -> x.pass(5));
        check.due(1, "pass to 999, where a leaver's membership ends", () -> x.pass(1));
        check.fails(x, OUT_OF_RANGE, "pass(1) on the last day", () -> x.pass(1));
        check.fails(x, OUT_OF_RANGE, "join on the last day", () -> x.join(1, 0, 999));
        check.due(2, "join without an end on the last day", () -> x.join(1, 0, -1));
    }

    private static void dayAndActive() {
        FolderKeeper x = new FolderKeeper();
        x.addAccount();
        x.addAccount();
        check.due(3, "active", () -> x.active());
        x.pass(99);
        x.pass(1);
        check.due(100, "day", () -> x.day());
        x.leave(1);
        check.due(2, "active after one has left", () -> x.active());
        x.addAccount();
        check.due(3, "active after another came", () -> x.active());
    }
}
