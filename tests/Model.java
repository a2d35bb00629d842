import java.util.ArrayList;
import java.util.HashSet;
import java.util.List;
import java.util.NoSuchElementException;
import java.util.Set;

/** The document in its plainest words, without a thought to speed: lists of memberships and shares, searched anew. */
final class Model {
    private static final class Membership {
        boolean isOfGroup;
        int member;
        int group;
        int end;
    }

    private static final class Share {
        boolean isForGroup;
        int whom;
        int right;
    }

    private static final class Folder {
        int owner;
        int parent;
        boolean isBroken;
        boolean isHeld;
        List<Share> shares = new ArrayList<>();
    }

    private final List<Boolean> active = new ArrayList<>();
    private final List<Integer> heirs = new ArrayList<>();
    private final List<Folder> folders = new ArrayList<>();
    private final List<Integer> rooms = new ArrayList<>();
    private List<Membership> memberships = new ArrayList<>();
    private int groups;
    private int day;

    Model() {
        active.add(true);
        heirs.add(-1);
    }

    private static void want(boolean holds, String exception) {
        if (!holds) {
            switch (exception) {
                case "index": throw new IndexOutOfBoundsException();
                case "argument": throw new IllegalArgumentException();
                case "unsupported": throw new UnsupportedOperationException();
                case "state": throw new IllegalStateException();
                case "element": throw new NoSuchElementException();
                default: throw new ArithmeticException();
            }
        }
    }

    private void wantIn(int number, int count) {
        want(0 <= number && number < count, "index");
    }

    int addAccount() {
        want(active.size() < 10, "state");
        active.add(true);
        heirs.add(-1);
        return active.size() - 1;
    }

    int setHeir(int account, int heir) {
        wantIn(account, active.size());
        want(heir == -1 || 0 <= heir && heir < active.size(), "index");
        want(account != heir, "argument");
        return heirs.set(account, heir);
    }

    int addGroup() {
        want(groups < 6, "state");
        return groups++;
    }

    private int count(boolean isOfGroup, int group) {
        int count = 0;
        for (Membership one : memberships) {
            count += one.isOfGroup == isOfGroup && one.group == group ? 1 : 0;
        }
        return count;
    }

    private Membership find(boolean isOfGroup, int member, int group) {
        for (Membership one : memberships) {
            if (one.isOfGroup == isOfGroup && one.member == member && one.group == group) {
                return one;
            }
        }
        return null;
    }

    private int put(boolean isOfGroup, int member, int group, int end) {
        memberships.remove(find(isOfGroup, member, group));
        Membership made = new Membership();
        made.isOfGroup = isOfGroup;
        made.member = member;
        made.group = group;
        made.end = end;
        memberships.add(made);
        return count(isOfGroup, group);
    }

    int join(int account, int group, int end) {
        wantIn(account, active.size());
        wantIn(group, groups);
        want(end == -1 || end > day && end <= 999, "argument");
        want(active.get(account), "unsupported");
        return put(false, account, group, end);
    }

    int nest(int inner, int outer, int end) {
        wantIn(inner, groups);
        wantIn(outer, groups);
        want(end == -1 || end > day && end <= 999, "argument");
        want(inner != outer && !led(true, outer).contains(inner), "unsupported");
        return put(true, inner, outer, end);
    }

    int drop(int account, int group) {
        wantIn(account, active.size());
        wantIn(group, groups);
        want(find(false, account, group) != null, "element");
        memberships.remove(find(false, account, group));
        return count(false, group);
    }

    /** The groups to which a member leads over memberships that count. */
    private Set<Integer> led(boolean isGroup, int member) {
        Set<Integer> found = new HashSet<>();
        for (Membership one : memberships) {
            if (one.isOfGroup == isGroup && one.member == member && (one.end == -1 || day < one.end)) {
                found.add(one.group);
                found.addAll(led(true, one.group));
            }
        }
        return found;
    }

    boolean isIn(int account, int group) {
        wantIn(account, active.size());
        wantIn(group, groups);
        return led(false, account).contains(group);
    }

    int memberships() {
        return memberships.size();
    }

    int addFolder(int owner, int parent) {
        wantIn(owner, active.size());
        want(parent == -1 || 0 <= parent && parent < folders.size(), "index");
        want(active.get(owner), "unsupported");
        want(folders.size() < 12, "state");
        Folder made = new Folder();
        made.owner = owner;
        made.parent = parent;
        folders.add(made);
        return folders.size() - 1;
    }

    int share(int folder, boolean isForGroup, int whom, int right) {
        wantIn(folder, folders.size());
        wantIn(whom, isForGroup ? groups : active.size());
        want(0 <= right && right <= 2, "argument");
        want(!folders.get(folder).isHeld, "state");
        List<Share> shares = folders.get(folder).shares;
        shares.removeIf(one -> one.isForGroup == isForGroup && one.whom == whom);
        if (right > 0) {
            Share made = new Share();
            made.isForGroup = isForGroup;
            made.whom = whom;
            made.right = right;
            shares.add(made);
        }
        return shares.size();
    }

    boolean setBroken(int folder, boolean isBroken) {
        wantIn(folder, folders.size());
        want(!folders.get(folder).isHeld, "state");
        boolean before = folders.get(folder).isBroken;
        folders.get(folder).isBroken = isBroken;
        return before;
    }

    int owner(int folder) {
        wantIn(folder, folders.size());
        return folders.get(folder).owner;
    }

    private List<Share> allShares(Folder folder) {
        List<Share> all = new ArrayList<>(folder.shares);
        if (folder.parent != -1 && !folder.isBroken) {
            all.addAll(allShares(folders.get(folder.parent)));
        }
        return all;
    }

    int right(int account, int folder) {
        wantIn(account, active.size());
        wantIn(folder, folders.size());
        if (!active.get(account)) {
            return 0;
        }
        if (folders.get(folder).owner == account) {
            return 3;
        }
        int best = 0;
        for (Share one : allShares(folders.get(folder))) {
            if (one.isForGroup ? led(false, account).contains(one.whom) : one.whom == account) {
                best = Math.max(best, one.right);
            }
        }
        return best;
    }

    int holders(int folder, int right) {
        wantIn(folder, folders.size());
        want(1 <= right && right <= 3, "argument");
        int count = 0;
        for (int account = 0; account < active.size(); account++) {
            count += right(account, folder) >= right ? 1 : 0;
        }
        return count;
    }

    int addRoom(int group) {
        wantIn(group, groups);
        want(rooms.size() < 4, "state");
        rooms.add(group);
        return rooms.size() - 1;
    }

    private Set<Integer> readersOf(int room) {
        Set<Integer> found = new HashSet<>();
        for (int account = 0; account < active.size(); account++) {
            if (active.get(account) && led(false, account).contains(rooms.get(room))) {
                found.add(account);
            }
        }
        if (found.isEmpty()) {
            found.add(0);
        }
        return found;
    }

    boolean reads(int account, int room) {
        wantIn(account, active.size());
        wantIn(room, rooms.size());
        return readersOf(room).contains(account);
    }

    int readers(int room) {
        wantIn(room, rooms.size());
        return readersOf(room).size();
    }

    private int keeperOf(Folder folder) {
        Set<Integer> looked = new HashSet<>();
        looked.add(folder.owner);
        int next = heirs.get(folder.owner);
        while (next != -1 && looked.add(next)) {
            if (active.get(next)) {
                return next;
            }
            next = heirs.get(next);
        }
        if (folder.parent != -1 && active.get(folders.get(folder.parent).owner)) {
            return folders.get(folder.parent).owner;
        }
        return 0;
    }

    /** Lets the owner leave for a look, and puts all back. */
    int keeper(int folder) {
        wantIn(folder, folders.size());
        int leaver = folders.get(folder).owner;
        boolean wasActive = active.get(leaver);
        List<Integer> owners = new ArrayList<>();
        for (Folder one : folders) {
            owners.add(one.owner);
        }
        active.set(leaver, false);
        for (int lower = 0; lower < folder; lower++) {
            if (folders.get(lower).owner == leaver && !folders.get(lower).isHeld) {
                folders.get(lower).owner = keeperOf(folders.get(lower));
            }
        }
        int keeper = keeperOf(folders.get(folder));
        active.set(leaver, wasActive);
        for (int i = 0; i < folders.size(); i++) {
            folders.get(i).owner = owners.get(i);
        }
        return keeper;
    }

    int leave(int account) {
        wantIn(account, active.size());
        want(account != 0, "unsupported");
        want(active.get(account), "state");
        active.set(account, false);
        int count = 0;
        for (Folder one : folders) {
            if (one.owner == account && !one.isHeld) {
                one.owner = keeperOf(one);
                count++;
            }
        }
        return count;
    }

    int hold(int folder) {
        wantIn(folder, folders.size());
        want(!folders.get(folder).isHeld, "state");
        folders.get(folder).isHeld = true;
        int count = 0;
        for (Folder one : folders) {
            count += one.isHeld ? 1 : 0;
        }
        return count;
    }

    int release(int folder) {
        wantIn(folder, folders.size());
        Folder released = folders.get(folder);
        want(released.isHeld, "state");
        released.isHeld = false;
        if (!active.get(released.owner)) {
            released.owner = keeperOf(released);
        }
        return released.owner;
    }

    int pass(int days) {
        want(1 <= days && days <= 99 && day + days <= 999, "argument");
        day += days;
        int before = memberships.size();
        memberships.removeIf(one -> one.end != -1 && one.end <= day);
        return before - memberships.size();
    }

    int day() {
        return day;
    }

    int active() {
        int count = 0;
        for (boolean one : active) {
            count += one ? 1 : 0;
        }
        return count;
    }

    float openShare() {
        want(!folders.isEmpty(), "arithmetic");
        int open = 0;
        for (int account = 0; account < active.size(); account++) {
            for (int folder = 0; folder < folders.size(); folder++) {
                open += right(account, folder) >= 1 ? 1 : 0;
            }
        }
        return (float) open / (float) (active() * folders.size());
    }

    double meanOwned() {
        Set<Integer> owners = new HashSet<>();
        int count = 0;
        for (Folder one : folders) {
            if (active.get(one.owner)) {
                owners.add(one.owner);
                count++;
            }
        }
        want(!owners.isEmpty(), "arithmetic");
        return (double) count / (double) owners.size();
    }
}
