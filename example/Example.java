/** A short life of a system of accounts. README.md shows it, and what it prints. */
public final class Example {
    public static void main(String[] args) {
        FolderKeeper keeper = new FolderKeeper();   // the warden alone, account 0, on the day 0
        int ann = keeper.addAccount();              // 1
        int bob = keeper.addAccount();              // 2
        keeper.setHeir(ann, bob);

        int staff = keeper.addGroup();
        int house = keeper.addGroup();
        keeper.nest(staff, house, -1);              // a group in a group; -1 is for never
        keeper.join(bob, staff, 30);                // counts up to the day 29

        int plans = keeper.addFolder(ann, -1);      // without a parent
        int drafts = keeper.addFolder(ann, plans);
        keeper.shareWithGroup(plans, house, 1);     // 1 to read, 2 to write, 0 for no share
        show("right of bob, handed down", keeper.right(bob, drafts));
        keeper.setBroken(drafts, true);
        show("right of bob, broken", keeper.right(bob, drafts));

        int post = keeper.addRoom(house);
        show("bob reads the post", keeper.reads(bob, post));
        show("memberships that end", keeper.pass(30));
        show("the warden reads the post", keeper.reads(0, post));

        keeper.hold(drafts);
        show("keeper of drafts to be", keeper.keeper(drafts));
        show("folders that get a keeper", keeper.leave(ann));
        show("owner of plans", keeper.owner(plans));
        show("owner of drafts, held", keeper.owner(drafts));
        show("owner of drafts, released", keeper.release(drafts));
        show("open pairs of all", keeper.openShare());
        show("folders of an owner", keeper.meanOwned());

        try {
            keeper.join(ann, staff, -1);
        } catch (UnsupportedOperationException e) {
            show("ann has left, memberships stay", keeper.memberships());
        }
    }

    private static void show(String told, Object answer) {
        System.out.println(told + ": " + answer);
    }
}
