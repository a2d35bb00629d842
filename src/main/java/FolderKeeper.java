import java.util.NoSuchElementException;

public final class FolderKeeper {
    private static final int MAX_ACCOUNTS = 10;
    private static final int MAX_GROUPS = 6;
    private static final int MAX_FOLDERS = 12;
    private static final int MAX_ROOMS = 4;
    private static final int LAST_DAY = 999;
    private static final int MOST_DAYS = 99;
    private static final int SET_SIZE = 32;

    private static final int WARDEN = 0;
    private static final int NONE = -1;
    private static final int NEVER = -1;
    private static final int NO_MEMBERSHIP = 0;
    private static final int NO_RIGHT = 0;
    private static final int READ = 1;
    private static final int WRITE = 2;
    private static final int OWN = 3;

    private int accounts;
    private int groups;
    private int folders;
    private int rooms;
    private int today;

    // Sets of numbers, a bit for each.
    private int activeAccounts;
    private int brokenFolders;
    private int heldFolders;

    private final Row heirs;
    private final Row owners;
    private final Row parents;
    private final Row roomGroups;

    // pass forgets what has ended, so each membership that is kept counts.
    private final Grid accountEnds;
    private final Grid groupEnds;

    private final Grid accountShares;
    private final Grid groupShares;

    public FolderKeeper() {
        heirs = new Row(MAX_ACCOUNTS, NONE);
        owners = new Row(MAX_FOLDERS, NONE);
        parents = new Row(MAX_FOLDERS, NONE);
        roomGroups = new Row(MAX_ROOMS, NONE);
        accountEnds = new Grid(MAX_GROUPS, MAX_ACCOUNTS);
        groupEnds = new Grid(MAX_GROUPS, MAX_GROUPS);
        accountShares = new Grid(MAX_FOLDERS, MAX_ACCOUNTS);
        groupShares = new Grid(MAX_FOLDERS, MAX_GROUPS);
        accounts = 1;
        activeAccounts = 1 << WARDEN;
    }

    // ---- accounts and groups

    public int addAccount() throws IllegalStateException {
        if (accounts >= MAX_ACCOUNTS) {
            throw new IllegalStateException("there is no room for another account");
        }
        int account = accounts;
        accounts++;
        activeAccounts = with(activeAccounts, account);
        return account;
    }

    public int setHeir(int account, int heir) throws IndexOutOfBoundsException, IllegalArgumentException {
        requireAccount(account);
        if (heir != NONE) {
            requireAccount(heir);
        }
        if (account == heir) {
            throw new IllegalArgumentException("an account is not its own heir");
        }
        int before = heirs.at(account);
        heirs.put(account, heir);
        return before;
    }

    public int addGroup() throws IllegalStateException {
        if (groups >= MAX_GROUPS) {
            throw new IllegalStateException("there is no room for another group");
        }
        int group = groups;
        groups++;
        return group;
    }

    public int join(int account, int group, int end)
            throws IndexOutOfBoundsException, IllegalArgumentException, UnsupportedOperationException {
        requireAccount(account);
        requireGroup(group);
        requireEnd(end);
        if (!isActive(account)) {
            throw new UnsupportedOperationException("the account has left");
        }
        accountEnds.put(group, account, end);
        return accountEnds.filled(group);
    }

    public int nest(int inner, int outer, int end)
            throws IndexOutOfBoundsException, IllegalArgumentException, UnsupportedOperationException {
        requireGroup(inner);
        requireGroup(outer);
        requireEnd(end);
        if (contains(andAllAround(with(0, outer)), inner)) {
            throw new UnsupportedOperationException("a group would come back to itself");
        }
        groupEnds.put(outer, inner, end);
        return groupEnds.filled(outer);
    }

    public int drop(int account, int group) throws IndexOutOfBoundsException, NoSuchElementException {
        requireAccount(account);
        requireGroup(group);
        if (!isMember(account, group)) {
            throw new NoSuchElementException("there is no such membership");
        }
        accountEnds.put(group, account, NO_MEMBERSHIP);
        return accountEnds.filled(group);
    }

    public boolean isIn(int account, int group) throws IndexOutOfBoundsException {
        requireAccount(account);
        requireGroup(group);
        return contains(groupsOf(account), group);
    }

    public int memberships() {
        int count = 0;
        for (int group = 0; group < groups; group++) {
            count += accountEnds.filled(group) + groupEnds.filled(group);
        }
        return count;
    }

    // ---- folders and shares

    public int addFolder(int owner, int parent)
            throws IndexOutOfBoundsException, UnsupportedOperationException, IllegalStateException {
        requireAccount(owner);
        if (parent != NONE) {
            requireFolder(parent);
        }
        if (!isActive(owner)) {
            throw new UnsupportedOperationException("the account has left");
        }
        if (folders >= MAX_FOLDERS) {
            throw new IllegalStateException("there is no room for another folder");
        }
        int folder = folders;
        folders++;
        owners.put(folder, owner);
        parents.put(folder, parent);
        return folder;
    }

    public int shareWith(int folder, int account, int right)
            throws IndexOutOfBoundsException, IllegalArgumentException, IllegalStateException {
        requireFolder(folder);
        requireAccount(account);
        requireRight(right, NO_RIGHT, WRITE);
        requireNotHeld(folder);
        accountShares.put(folder, account, right);
        return sharesOf(folder);
    }

    public int shareWithGroup(int folder, int group, int right)
            throws IndexOutOfBoundsException, IllegalArgumentException, IllegalStateException {
        requireFolder(folder);
        requireGroup(group);
        requireRight(right, NO_RIGHT, WRITE);
        requireNotHeld(folder);
        groupShares.put(folder, group, right);
        return sharesOf(folder);
    }

    public boolean setBroken(int folder, boolean isBroken) throws IndexOutOfBoundsException, IllegalStateException {
        requireFolder(folder);
        requireNotHeld(folder);
        boolean before = contains(brokenFolders, folder);
        brokenFolders = isBroken ? with(brokenFolders, folder) : without(brokenFolders, folder);
        return before;
    }

    public int owner(int folder) throws IndexOutOfBoundsException {
        requireFolder(folder);
        return owners.at(folder);
    }

    public int right(int account, int folder) throws IndexOutOfBoundsException {
        requireAccount(account);
        requireFolder(folder);
        return rightAmong(account, groupsOf(account), folder);
    }

    public int rightByWalking(int account, int folder) throws IndexOutOfBoundsException {
        requireAccount(account);
        requireFolder(folder);
        if (!isActive(account)) {
            return NO_RIGHT;
        }
        return owners.at(folder) == account ? OWN : bestHandedByWalking(account, folder, 0);
    }

    public int holders(int folder, int right) throws IndexOutOfBoundsException, IllegalArgumentException {
        requireFolder(folder);
        requireRight(right, READ, OWN);
        int count = 0;
        for (int account = 0; account < accounts; account++) {
            if (rightAmong(account, groupsOf(account), folder) >= right) {
                count++;
            }
        }
        return count;
    }

    // ---- rooms

    public int addRoom(int group) throws IndexOutOfBoundsException, IllegalStateException {
        requireGroup(group);
        if (rooms >= MAX_ROOMS) {
            throw new IllegalStateException("there is no room for another mail room");
        }
        int room = rooms;
        rooms++;
        roomGroups.put(room, group);
        return room;
    }

    public boolean reads(int account, int room) throws IndexOutOfBoundsException {
        requireAccount(account);
        requireRoom(room);
        int group = roomGroups.at(room);
        if (isActive(account) && contains(groupsOf(account), group)) {
            return true;
        }
        return account == WARDEN && activeIn(group) == 0;
    }

    public int readers(int room) throws IndexOutOfBoundsException {
        requireRoom(room);
        int members = activeIn(roomGroups.at(room));
        return members == 0 ? 1 : members;
    }

    // ---- leaving, holds and days

    public int keeper(int folder) throws IndexOutOfBoundsException {
        requireFolder(folder);
        return keeperAfterLeaving(folder);
    }

    public int leave(int account)
            throws IndexOutOfBoundsException, UnsupportedOperationException, IllegalStateException {
        requireAccount(account);
        if (account == WARDEN) {
            throw new UnsupportedOperationException("the warden never leaves");
        }
        if (!isActive(account)) {
            throw new IllegalStateException("the account has left");
        }
        activeAccounts = without(activeAccounts, account);
        return handOverFoldersOf(account);
    }

    public int hold(int folder) throws IndexOutOfBoundsException, IllegalStateException {
        requireFolder(folder);
        requireNotHeld(folder);
        heldFolders = with(heldFolders, folder);
        return Integer.bitCount(heldFolders);
    }

    public int release(int folder) throws IndexOutOfBoundsException, IllegalStateException {
        requireFolder(folder);
        if (!isHeld(folder)) {
            throw new IllegalStateException("the folder is not held");
        }
        heldFolders = without(heldFolders, folder);
        if (!isActive(owners.at(folder))) {
            owners.put(folder, keeperAfterLeaving(folder));
        }
        return owners.at(folder);
    }

    public int pass(int days) throws IllegalArgumentException {
        if (days < 1 || days > MOST_DAYS || today + days > LAST_DAY) {
            throw new IllegalArgumentException("the number of days is out of range");
        }
        today += days;
        return accountEnds.clearUpTo(today) + groupEnds.clearUpTo(today);
    }

    public int day() {
        return today;
    }

    public int active() {
        return Integer.bitCount(activeAccounts);
    }

    // ---- figures

    public float openShare() throws ArithmeticException {
        int pairs = Integer.bitCount(activeAccounts) * folders;
        if (pairs == 0) {
            throw new ArithmeticException("there are no folders");
        }
        return (float) openPairs() / (float) pairs;
    }

    public double meanOwned() throws ArithmeticException {
        int owning = 0;
        int owned = 0;
        for (int folder = 0; folder < folders; folder++) {
            int owner = owners.at(folder);
            if (isActive(owner)) {
                owning = with(owning, owner);
                owned++;
            }
        }
        int divisor = Integer.bitCount(owning);
        if (divisor == 0) {
            throw new ArithmeticException("no active account owns a folder");
        }
        return (double) owned / (double) divisor;
    }

    // ---- what the document wants of arguments

    private void requireAccount(int account) {
        if (account < 0 || account >= accounts) {
            throw new IndexOutOfBoundsException("there is no such account");
        }
    }

    private void requireGroup(int group) {
        if (group < 0 || group >= groups) {
            throw new IndexOutOfBoundsException("there is no such group");
        }
    }

    private void requireFolder(int folder) {
        if (folder < 0 || folder >= folders) {
            throw new IndexOutOfBoundsException("there is no such folder");
        }
    }

    private void requireRoom(int room) {
        if (room < 0 || room >= rooms) {
            throw new IndexOutOfBoundsException("there is no such room");
        }
    }

    private void requireEnd(int end) {
        if (end != NEVER && (end <= today || end > LAST_DAY)) {
            throw new IllegalArgumentException("the day is out of range");
        }
    }

    private void requireNotHeld(int folder) {
        if (isHeld(folder)) {
            throw new IllegalStateException("the folder is held");
        }
    }

    private static void requireRight(int right, int least, int greatest) {
        if (right < least || right > greatest) {
            throw new IllegalArgumentException("the right is out of range");
        }
    }

    // ---- accounts in groups

    private boolean isActive(int account) {
        return contains(activeAccounts, account);
    }

    private boolean isMember(int account, int group) {
        return accountEnds.at(group, account) != NO_MEMBERSHIP;
    }

    private boolean isNested(int inner, int outer) {
        return groupEnds.at(outer, inner) != NO_MEMBERSHIP;
    }

    private int groupsOf(int account) {
        int joined = 0;
        for (int group = 0; group < groups; group++) {
            if (isMember(account, group)) {
                joined = with(joined, group);
            }
        }
        return andAllAround(joined);
    }

    private int andAllAround(int inside) {
        int found = inside;
        // No group comes back to itself, so no chain has more steps than there are groups.
        for (int step = 0; step < MAX_GROUPS; step++) {
            int before = found;
            for (int inner = 0; inner < groups; inner++) {
                if (contains(found, inner)) {
                    found |= groupsNextAround(inner);
                }
            }
            if (found == before) {
                break;
            }
        }
        return found;
    }

    private int groupsNextAround(int inner) {
        int around = 0;
        for (int outer = 0; outer < groups; outer++) {
            if (isNested(inner, outer)) {
                around = with(around, outer);
            }
        }
        return around;
    }

    private boolean leadsTo(int account, int group, int depth) {
        if (isMember(account, group)) {
            return true;
        }
        if (depth >= MAX_GROUPS) {
            return false;
        }
        for (int inner = 0; inner < groups; inner++) {
            if (isNested(inner, group) && leadsTo(account, inner, depth + 1)) {
                return true;
            }
        }
        return false;
    }

    private int activeIn(int group) {
        int count = 0;
        for (int account = 0; account < accounts; account++) {
            if (isActive(account) && contains(groupsOf(account), group)) {
                count++;
            }
        }
        return count;
    }

    // ---- rights to folders

    private boolean isHeld(int folder) {
        return contains(heldFolders, folder);
    }

    private int sharesOf(int folder) {
        return accountShares.filled(folder) + groupShares.filled(folder);
    }

    private int giverTo(int folder) {
        return contains(brokenFolders, folder) ? NONE : parents.at(folder);
    }

    private int rightAmong(int account, int joined, int folder) {
        if (!isActive(account)) {
            return NO_RIGHT;
        }
        if (owners.at(folder) == account) {
            return OWN;
        }
        int best = NO_RIGHT;
        int giver = folder;
        for (int step = 0; step < MAX_FOLDERS && giver != NONE; step++) {
            best = Math.max(best, bestShareAmong(account, joined, giver));
            giver = giverTo(giver);
        }
        return best;
    }

    private int bestShareAmong(int account, int joined, int folder) {
        int best = accountShares.at(folder, account);
        for (int group = 0; group < groups; group++) {
            if (contains(joined, group)) {
                best = Math.max(best, groupShares.at(folder, group));
            }
        }
        return best;
    }

    private int bestHandedByWalking(int account, int folder, int depth) {
        if (folder == NONE || depth >= MAX_FOLDERS) {
            return NO_RIGHT;
        }
        int above = bestHandedByWalking(account, giverTo(folder), depth + 1);
        return Math.max(above, bestShareByWalking(account, folder));
    }

    private int bestShareByWalking(int account, int folder) {
        int best = accountShares.at(folder, account);
        for (int group = 0; group < groups; group++) {
            int share = groupShares.at(folder, group);
            if (share > best && leadsTo(account, group, 0)) {
                best = share;
            }
        }
        return best;
    }

    private int openPairs() {
        int open = 0;
        for (int account = 0; account < accounts; account++) {
            int joined = groupsOf(account);
            for (int folder = 0; folder < folders; folder++) {
                if (rightAmong(account, joined, folder) >= READ) {
                    open++;
                }
            }
        }
        return open;
    }

    // ---- keepers of folders

    private int handOverFoldersOf(int leaver) {
        int handed = 0;
        for (int folder = 0; folder < folders; folder++) {
            if (isHandedOverBy(leaver, folder)) {
                owners.put(folder, keeperAfterLeaving(folder));
                handed++;
            }
        }
        return handed;
    }

    private boolean isHandedOverBy(int leaver, int folder) {
        return owners.at(folder) == leaver && !isHeld(folder);
    }

    private int keeperAfterLeaving(int folder) {
        int leaver = owners.at(folder);
        int heir = firstActiveHeir(leaver);
        return heir != NONE ? heir : ownerAbove(folder, leaver);
    }

    private int firstActiveHeir(int leaver) {
        int heir = heirs.at(leaver);
        // Chains may go round; after so many steps each account has been looked at.
        for (int step = 0; step < MAX_ACCOUNTS && heir != NONE; step++) {
            if (heir != leaver && isActive(heir)) {
                return heir;
            }
            heir = heirs.at(heir);
        }
        return NONE;
    }

    private int ownerAbove(int folder, int leaver) {
        int above = parents.at(folder);
        // A parent has a lower number: if it is the leaver's, it has got the keeper of its own
        // parent before, and that one is then its owner here.
        for (int step = 0; step < MAX_FOLDERS && isHandedOverBy(leaver, above); step++) {
            above = parents.at(above);
        }
        int owner = owners.at(above);
        return owner != leaver && isActive(owner) ? owner : WARDEN;
    }

    // ---- sets of numbers

    private static boolean contains(int set, int number) {
        return number >= 0 && number < SET_SIZE && ((set >>> number) & 1) != 0;
    }

    private static int with(int set, int number) {
        return set | (1 << number);
    }

    private static int without(int set, int number) {
        return set & ~(1 << number);
    }

    // Rows and grids look at each index, so that no caller can reach beyond one.
    private static final class Row {
        private final int[] cells;
        private final int blank;

        Row(int size, int blank) {
            cells = new int[Math.max(size, 0)];
            this.blank = blank;
            for (int index = 0; index < cells.length; index++) {
                cells[index] = blank;
            }
        }

        int at(int index) {
            return index >= 0 && index < cells.length ? cells[index] : blank;
        }

        void put(int index, int value) {
            if (index >= 0 && index < cells.length) {
                cells[index] = value;
            }
        }
    }

    private static final class Grid {
        private static final int EMPTY = 0;

        private final int[] cells;
        private final int width;

        Grid(int height, int width) {
            cells = new int[Math.max(height * width, 0)];
            this.width = width;
        }

        int at(int line, int column) {
            if (column < 0 || column >= width) {
                return EMPTY;
            }
            int index = line * width + column;
            return index >= 0 && index < cells.length ? cells[index] : EMPTY;
        }

        void put(int line, int column, int value) {
            if (column < 0 || column >= width) {
                return;
            }
            int index = line * width + column;
            if (index >= 0 && index < cells.length) {
                cells[index] = value;
            }
        }

        int filled(int line) {
            int count = 0;
            for (int column = 0; column < width; column++) {
                if (at(line, column) != EMPTY) {
                    count++;
                }
            }
            return count;
        }

        int clearUpTo(int last) {
            int cleared = 0;
            for (int index = 0; index < cells.length; index++) {
                // What never ends stands below EMPTY.
                if (cells[index] > EMPTY && cells[index] <= last) {
                    cells[index] = EMPTY;
                    cleared++;
                }
            }
            return cleared;
        }
    }
}
