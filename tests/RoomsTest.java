/** Promises 18 to 20. */
public final class RoomsTest {
    private static final Class<IndexOutOfBoundsException> NO_SUCH = IndexOutOfBoundsException.class;

    private static final Check check = new Check("promises 18 to 20");

    public static void main(String[] args) {
        addRoom();
        readsAndReaders();
        readsWrong();
        check.end();
    }

    private static void addRoom() {
        FolderKeeper x = Make.with(1, 2);
        check.fails(x, NO_SUCH, "addRoom(2)", () -> x.addRoom(2));
        check.fails(x, NO_SUCH, "addRoom(-1)", () -> x.addRoom(-1));
        for (int room = 0; room < 4; room++) {
            check.due(room, "addRoom(1)", () -> x.addRoom(1));
        }
        check.fails(x, NO_SUCH, "addRoom(2) to 4", () -> x.addRoom(2));
        check.fails(x, IllegalStateException.class, "addRoom(0) to 4", () -> x.addRoom(0));
    }

    private static void dueReaders(FolderKeeper x, int room, String want) {
        int count = 0;
        for (int account = 0; account < want.length(); account++) {
            int one = account;
            boolean isReader = want.charAt(account) == 'r';
            count += isReader ? 1 : 0;
            check.due(isReader, "reads(" + account + ", " + room + ")", () -> x.reads(one, room));
        }
        check.due(count, "readers(" + room + ")", () -> x.readers(room));
    }

    private static void readsAndReaders() {
        FolderKeeper x = Make.with(4, 3);
        x.addRoom(0);
        x.addRoom(1);
        x.addRoom(2);
        dueReaders(x, 0, "r....");
        x.join(1, 0, -1);
        x.join(2, 1, 4);
        x.nest(0, 1, 6);
        dueReaders(x, 0, ".r...");
        dueReaders(x, 1, ".rr..");
        dueReaders(x, 2, "r....");
        x.join(0, 1, -1);
        dueReaders(x, 1, "rrr..");
        x.drop(0, 1);
        x.leave(1);
        dueReaders(x, 0, "r....");
        dueReaders(x, 1, "..r..");
        x.pass(4);
        dueReaders(x, 1, "r....");
        x.join(0, 1, -1);
        dueReaders(x, 1, "r....");
        x.join(3, 0, 7);
        dueReaders(x, 1, "r..r.");
        x.pass(2);
        dueReaders(x, 1, "r....");
        dueReaders(x, 0, "...r.");
        x.pass(1);
        dueReaders(x, 0, "r....");
    }

    private static void readsWrong() {
        FolderKeeper x = Make.with(1, 1);
        x.addRoom(0);
        check.fails(x, NO_SUCH, "reads(2, 0)", () -> x.reads(2, 0));
        check.fails(x, NO_SUCH, "reads(-1, 0)", () -> x.reads(-1, 0));
        check.fails(x, NO_SUCH, "reads(0, 1)", () -> x.reads(0, 1));
        check.fails(x, NO_SUCH, "reads(0, -1)", () -> x.reads(0, -1));
        check.fails(x, NO_SUCH, "readers(1)", () -> x.readers(1));
        check.fails(x, NO_SUCH, "readers(-1)", () -> x.readers(-1));
    }
}
