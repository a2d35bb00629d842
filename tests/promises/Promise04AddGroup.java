/** "Adds a group without members." */
final class Promise04AddGroup extends Cases {
    void theFirstIsTheGroup0() {
        due("addGroup() = 0");
    }

    void theyAreNumberedOneByOne() {
        due("addGroup() = 0; addGroup() = 1; addGroup() = 2");
    }

    void itHasNoMembers() {
        due("2 * addAccount(); addGroup(); isIn(0, 0) = false; isIn(1, 0) = false; isIn(2, 0) = false; memberships() = 0");
    }

    void itHasNoMembersThoughOthersHave() {
        due("addGroup(); join(0, 0, -1); addGroup(); isIn(0, 1) = false; memberships() = 1");
    }

    void theFirstMemberIsTheOnlyOne() {
        due("2 * addGroup(); join(0, 1, -1) = 1; nest(0, 1, -1) = 1");
    }

    void theSixthGroupIsAdded() {
        due("5 * addGroup(); addGroup() = 5; join(0, 5, -1) = 1");
    }

    void throwsIllegalStateIfThereAre6Groups() {
        due("6 * addGroup(); addGroup() = throws.IllegalStateException");
    }

    void throwsIllegalStateAgainAndAgain() {
        due("6 * addGroup()", "addGroup() = throws.IllegalStateException\n".repeat(3));
    }
}
