/** "Creates a system with the warden alone, on the day 0." */
final class Promise01NewObject extends Cases {
    void theWardenAloneIsActive() {
        due("active() = 1");
    }

    void theWardenIsTheAccount0() {
        due("leave(0) = throws.UnsupportedOperationException");
    }

    void theWardenHasNoHeir() {
        due("setHeir(0, -1) = -1");
    }

    void thereIsNoAccount1() {
        due("leave(1) = throws.IndexOutOfBoundsException");
    }

    void theDayIs0() {
        due("day() = 0");
    }

    void thereAreNoGroups() {
        due("isIn(0, 0) = throws.IndexOutOfBoundsException");
    }

    void thereAreNoMemberships() {
        due("memberships() = 0");
    }

    void thereAreNoFolders() {
        due("owner(0) = throws.IndexOutOfBoundsException");
    }

    void thereAreNoRooms() {
        due("readers(0) = throws.IndexOutOfBoundsException");
    }

    void noFolderIsHeld() {
        due("addFolder(0, -1); hold(0) = 1");
    }

    void anObjectKnowsNothingOfAnother() {
        due("addAccount(); addGroup(); addFolder(1, -1); addRoom(0); join(1, 0, -1); hold(0); leave(1); pass(5)");
        due("""
            active() = 1
            day() = 0
            memberships() = 0
            addAccount() = 1
            addGroup() = 0
            isIn(1, 0) = false
            addFolder(1, -1) = 0
            hold(0) = 1
            addRoom(0) = 0
            readers(0) = 1
            """);
    }
}
