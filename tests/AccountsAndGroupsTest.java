import java.util.NoSuchElementException;

/** Promises 1 to 9. */
public final class AccountsAndGroupsTest {
    private static final Class<IndexOutOfBoundsException> NO_SUCH = IndexOutOfBoundsException.class;
    private static final Class<IllegalArgumentException> OUT_OF_RANGE = IllegalArgumentException.class;
    private static final Class<UnsupportedOperationException> RULED_OUT = UnsupportedOperationException.class;

    private static final Check check = new Check("promises 1 to 9");

    public static void main(String[] args) {
        newObject();
        addAccount();
        setHeir();
        addGroup();
        join();
        joinWrong();
        nest();
        nestWrong();
        drop();
        isIn();
        memberships();
        check.end();
    }

    private static void newObject() {
        FolderKeeper x = new FolderKeeper();
        check.due(0, "day", () -> x.day());
        check.due(1, "active", () -> x.active());
        check.due(0, "memberships", () -> x.memberships());
        check.fails(x, NO_SUCH, "isIn without groups", () -> x.isIn(0, 0));
        check.fails(x, NO_SUCH, "owner without folders", () -> x.owner(0));
        check.fails(x, NO_SUCH, "readers without rooms", () -> x.readers(0));
        check.fails(x, NO_SUCH, "leave of an account that is not there", () -> x.leave(1));
        check.due("throws.UnsupportedOperationException", "leave of the warden", () -> x.leave(0));
        check.due(-1, "the warden's heir", () -> x.setHeir(0, -1));
        check.due(0, "addGroup", () -> x.addGroup());
        check.due(0, "addFolder of the warden", () -> x.addFolder(0, -1));
        check.due(0, "addRoom", () -> x.addRoom(0));
    }

    private static void addAccount() {
        FolderKeeper x = new FolderKeeper();
        for (int account = 1; account < 10; account++) {
            check.due(account, "addAccount", () -> x.addAccount());
            int last = account;
            check.due(-1, "the heir of a new account", () -> x.setHeir(last, -1));
        }
        check.due(10, "active", () -> x.active());
        check.fails(x, IllegalStateException.class, "addAccount to 10", () -> x.addAccount());
        x.leave(5);
        check.fails(x, IllegalStateException.class, "addAccount to 10, one of which has left", () -> x.addAccount());
    }

    private static void setHeir() {
        FolderKeeper x = Make.with(3, 0);
        check.due(-1, "setHeir(1, 2)", () -> x.setHeir(1, 2));
        check.due(2, "setHeir(1, 0)", () -> x.setHeir(1, 0));
        check.due(0, "setHeir(1, -1)", () -> x.setHeir(1, -1));
        check.due(-1, "setHeir(1, 3)", () -> x.setHeir(1, 3));
        check.due(-1, "setHeir(0, 1)", () -> x.setHeir(0, 1));
        x.leave(1);
        check.due(3, "setHeir of one who has left", () -> x.setHeir(1, 2));
        check.due(1, "setHeir from a leaver", () -> x.setHeir(0, 2));
        check.due(2, "setHeir to a leaver", () -> x.setHeir(0, 1));
        check.fails(x, NO_SUCH, "setHeir(4, 1)", () -> x.setHeir(4, 1));
        check.fails(x, NO_SUCH, "setHeir(-1, 1)", () -> x.setHeir(-1, 1));
        check.fails(x, NO_SUCH, "setHeir(1, 4)", () -> x.setHeir(1, 4));
        check.fails(x, NO_SUCH, "setHeir(1, -2)", () -> x.setHeir(1, -2));
        check.fails(x, NO_SUCH, "setHeir(-1, -1)", () -> x.setHeir(-1, -1));
        check.fails(x, NO_SUCH, "setHeir(4, 4)", () -> x.setHeir(4, 4));
        check.fails(x, OUT_OF_RANGE, "setHeir(2, 2)", () -> x.setHeir(2, 2));
        check.fails(x, OUT_OF_RANGE, "setHeir(0, 0)", () -> x.setHeir(0, 0));
        check.due(2, "the heir after wrong calls", () -> x.setHeir(1, 2));
    }

    private static void addGroup() {
        FolderKeeper x = new FolderKeeper();
        for (int group = 0; group < 6; group++) {
            int last = group;
            check.due(group, "addGroup", () -> x.addGroup());
            check.due(false, "isIn of a new group", () -> x.isIn(0, last));
        }
        check.fails(x, IllegalStateException.class, "addGroup to 6", () -> x.addGroup());
    }

    private static void join() {
        FolderKeeper x = Make.with(3, 3);
        check.due(1, "join(1, 0, 5)", () -> x.join(1, 0, 5));
        check.due(2, "join(2, 0, -1)", () -> x.join(2, 0, -1));
        check.due(2, "join(1, 0, 1)", () -> x.join(1, 0, 1));
        check.due(1, "join(1, 1, 999)", () -> x.join(1, 1, 999));
        check.due(3, "join of the warden", () -> x.join(0, 0, 3));
        x.nest(1, 0, -1);
        check.due(3, "join of a group that has a group in it", () -> x.join(0, 0, 3));
        check.due(1, "the day on which the newer of two ends comes", () -> x.pass(1));
        check.due(2, "join again after the end", () -> x.drop(1, 1) + x.join(2, 0, 2));
        check.due(2, "two that end", () -> x.pass(2));
        check.due(1, "join after these ends", () -> x.join(1, 0, 4));
    }

    private static void joinWrong() {
        FolderKeeper x = Make.with(3, 3);
        x.pass(7);
        x.join(3, 1, -1);
        x.leave(3);
        check.fails(x, NO_SUCH, "join(4, 0, 9)", () -> x.join(4, 0, 9));
        check.fails(x, NO_SUCH, "join(-1, 0, 9)", () -> x.join(-1, 0, 9));
        check.fails(x, NO_SUCH, "join(1, 3, 9)", () -> x.join(1, 3, 9));
        check.fails(x, NO_SUCH, "join(1, -1, 9)", () -> x.join(1, -1, 9));
        check.fails(x, NO_SUCH, "join(1, 3, 0)", () -> x.join(1, 3, 0));
        check.fails(x, NO_SUCH, "join(3, 3, 0)", () -> x.join(3, 3, 0));
        check.fails(x, OUT_OF_RANGE, "join on the day", () -> x.join(1, 0, 7));
        check.fails(x, OUT_OF_RANGE, "join before the day", () -> x.join(1, 0, 6));
        check.fails(x, OUT_OF_RANGE, "join(1, 0, 0)", () -> x.join(1, 0, 0));
        check.fails(x, OUT_OF_RANGE, "join(1, 0, -2)", () -> x.join(1, 0, -2));
        check.fails(x, OUT_OF_RANGE, "join(1, 0, 1000)", () -> x.join(1, 0, 1000));
        check.fails(x, OUT_OF_RANGE, "a leaver's join out of range", () -> x.join(3, 0, 7));
        check.fails(x, RULED_OUT, "a leaver's join", () -> x.join(3, 0, 8));
        check.fails(x, RULED_OUT, "a leaver's join where it is", () -> x.join(3, 1, -1));
        check.due(1, "join later than the day", () -> x.join(1, 0, 8));
        check.due(1, "join up to the last day", () -> x.join(2, 2, 999));
    }

    private static void nest() {
        FolderKeeper x = Make.with(1, 6);
        check.due(1, "nest(0, 1, 5)", () -> x.nest(0, 1, 5));
        check.due(1, "nest(0, 1, 3)", () -> x.nest(0, 1, 3));
        check.due(2, "nest(2, 1, -1)", () -> x.nest(2, 1, -1));
        check.due(1, "nest(0, 2, 999)", () -> x.nest(0, 2, 999));
        x.join(1, 1, -1);
        check.due(3, "nest beside an account", () -> x.nest(5, 1, 1));
        check.due(5, "memberships", () -> x.memberships());
        check.due(1, "nest that ends on 1", () -> x.pass(1));
        check.due(1, "nest whose newer end is on 3", () -> x.pass(2));
        check.due(0, "nest whose older end was on 5", () -> x.pass(2));
        check.due(2, "nest that has ended, anew", () -> x.nest(0, 1, 6));
    }

    private static void nestWrong() {
        FolderKeeper x = Make.with(1, 5);
        x.pass(3);
        x.nest(0, 1, 6);
        x.nest(1, 2, -1);
        x.nest(2, 3, 4);
        check.fails(x, NO_SUCH, "nest(5, 0, 9)", () -> x.nest(5, 0, 9));
        check.fails(x, NO_SUCH, "nest(-1, 0, 9)", () -> x.nest(-1, 0, 9));
        check.fails(x, NO_SUCH, "nest(0, 5, 9)", () -> x.nest(0, 5, 9));
        check.fails(x, NO_SUCH, "nest(0, -1, 9)", () -> x.nest(0, -1, 9));
        check.fails(x, NO_SUCH, "nest(5, 5, 0)", () -> x.nest(5, 5, 0));
        check.fails(x, NO_SUCH, "nest(0, 5, 3)", () -> x.nest(0, 5, 3));
        check.fails(x, NO_SUCH, "nest(5, 0, 3)", () -> x.nest(5, 0, 3));
        check.fails(x, OUT_OF_RANGE, "nest on the day", () -> x.nest(0, 4, 3));
        check.fails(x, OUT_OF_RANGE, "nest(0, 4, 0)", () -> x.nest(0, 4, 0));
        check.fails(x, OUT_OF_RANGE, "nest(0, 4, -2)", () -> x.nest(0, 4, -2));
        check.fails(x, OUT_OF_RANGE, "nest(0, 4, 1000)", () -> x.nest(0, 4, 1000));
        check.fails(x, OUT_OF_RANGE, "nest in itself out of range", () -> x.nest(1, 1, 3));
        check.fails(x, RULED_OUT, "nest in itself", () -> x.nest(4, 4, -1));
        check.fails(x, RULED_OUT, "nest of 1 in 0", () -> x.nest(1, 0, -1));
        check.fails(x, RULED_OUT, "nest of 3 in 0", () -> x.nest(3, 0, 9));
        check.due(1, "nest of 0 in 3 is no way back", () -> x.nest(0, 3, -1) - 1);
        x.pass(1);
        check.fails(x, RULED_OUT, "nest of 3 in 0, which is in it otherwise", () -> x.nest(3, 0, 9));
        check.due(1, "nest of 3 in 2, which has ended in it", () -> x.nest(3, 2, 9) - 1);
        check.fails(x, RULED_OUT, "nest of 2 in 3 now", () -> x.nest(2, 3, 9));
    }

    private static void drop() {
        FolderKeeper x = Make.with(3, 2);
        x.join(1, 0, 5);
        x.join(2, 0, -1);
        x.join(1, 1, 2);
        x.nest(0, 1, -1);
        check.fails(x, NO_SUCH, "drop(4, 0)", () -> x.drop(4, 0));
        check.fails(x, NO_SUCH, "drop(-1, 0)", () -> x.drop(-1, 0));
        check.fails(x, NO_SUCH, "drop(1, 2)", () -> x.drop(1, 2));
        check.fails(x, NO_SUCH, "drop(1, -1)", () -> x.drop(1, -1));
        check.fails(x, NoSuchElementException.class, "drop(3, 0)", () -> x.drop(3, 0));
        check.fails(x, NoSuchElementException.class, "drop where a group of it is", () -> x.drop(2, 1));
        check.due(1, "drop(1, 0)", () -> x.drop(1, 0));
        check.due(false, "isIn after drop", () -> x.isIn(1, 0));
        check.due(true, "isIn of another group after drop", () -> x.isIn(1, 1));
        check.fails(x, NoSuchElementException.class, "drop twice", () -> x.drop(1, 0));
        x.leave(2);
        check.due(0, "drop of a leaver", () -> x.drop(2, 0));
        x.pass(2);
        check.fails(x, NoSuchElementException.class, "drop after the end", () -> x.drop(1, 1));
    }

    private static void isIn() {
        FolderKeeper x = Make.with(3, 6);
        // Against the order of the numbers, so that one look at each group is not enough.
        x.nest(5, 3, -1);
        x.nest(3, 4, -1);
        x.nest(4, 1, 9);
        x.nest(1, 2, -1);
        x.nest(2, 0, 6);
        x.join(1, 5, 4);
        x.join(2, 4, -1);
        for (int group = 0; group < 6; group++) {
            int one = group;
            check.due(true, "isIn(1, " + group + ")", () -> x.isIn(1, one));
            check.due(group != 5 && group != 3, "isIn(2, " + group + ")", () -> x.isIn(2, one));
            check.due(false, "isIn(3, " + group + ")", () -> x.isIn(3, one));
        }
        x.leave(2);
        check.due(true, "isIn of a leaver", () -> x.isIn(2, 0));
        x.pass(3);
        check.due(true, "isIn on the day before the end", () -> x.isIn(1, 0));
        x.pass(1);
        check.due(false, "isIn on the day of the end", () -> x.isIn(1, 5));
        check.due(false, "isIn beyond it", () -> x.isIn(1, 0));
        check.due(true, "isIn over nests", () -> x.isIn(2, 0));
        x.pass(2);
        check.due(false, "isIn over a nest that has ended", () -> x.isIn(2, 0));
        check.due(true, "isIn before it", () -> x.isIn(2, 2));
        check.fails(x, NO_SUCH, "isIn(4, 0)", () -> x.isIn(4, 0));
        check.fails(x, NO_SUCH, "isIn(-1, 0)", () -> x.isIn(-1, 0));
        check.fails(x, NO_SUCH, "isIn(0, 6)", () -> x.isIn(0, 6));
        check.fails(x, NO_SUCH, "isIn(0, -1)", () -> x.isIn(0, -1));
    }

    private static void memberships() {
        FolderKeeper x = Make.with(9, 6);
        for (int group = 0; group < 6; group++) {
            for (int account = 0; account < 10; account++) {
                x.join(account, group, -1);
            }
            for (int outer = group + 1; outer < 6; outer++) {
                x.nest(group, outer, 5);
            }
        }
        check.due(75, "memberships of all in all", () -> x.memberships());
        x.leave(9);
        check.due(75, "memberships after one has left", () -> x.memberships());
        x.join(1, 0, 4);
        check.due(75, "memberships after one has another end", () -> x.memberships());
        x.drop(2, 3);
        check.due(74, "memberships after a drop", () -> x.memberships());
        x.pass(4);
        check.due(73, "memberships on the day 4", () -> x.memberships());
        x.pass(1);
        check.due(58, "memberships on the day 5", () -> x.memberships());
    }
}
