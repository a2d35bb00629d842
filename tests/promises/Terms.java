/** The section "Terms", which binds every promise. */
final class Terms extends Cases {
    private static final String START = """
        5 * addAccount(); 4 * addGroup(); addFolder(1, -1); addFolder(2, 0); addFolder(1, 1); addRoom(0)
        """;

    void nothingBelongsToNobody() {
        due(START, "leave(1) = 2; owner(0) = 0; owner(1) = 2; owner(2) = 2; leave(2) = 2; owner(1) = 0; owner(2) = 0");
    }

    void nothingBelongsToNobodyIfAllHeirsHaveLeft() {
        due(START, "setHeir(1, 3); setHeir(3, 4); leave(3); leave(4); leave(1) = 2; owner(0) = 0; owner(2) = 2");
    }

    void noLeaverOpensAFolderThatItOwns() {
        due(START, "hold(0); leave(1); owner(0) = 1; right(1, 0) = 0; rightByWalking(1, 0) = 0");
    }

    void noLeaverOpensAFolderByAShare() {
        due(START, "shareWith(0, 3, 2); leave(3); right(3, 0) = 0; rightByWalking(3, 0) = 0; right(3, 2) = 0");
    }

    void noLeaverOpensAFolderByAGroup() {
        due(START, "join(3, 0, -1); shareWithGroup(0, 0, 2); leave(3); right(3, 0) = 0; rightByWalking(3, 0) = 0");
    }

    void noLeaverReadsARoom() {
        due(START, "join(3, 0, -1); leave(3); reads(3, 0) = false; readers(0) = 1; reads(0, 0) = true");
    }

    void accountsAreAtMost10From0() {
        due("leave(0) = throws.UnsupportedOperationException; 9 * addAccount(); leave(9) = 0; addAccount() = throws.IllegalStateException");
    }

    void accountsAreActiveUntilTheyLeave() {
        due(START, "active() = 6; pass(99); active() = 6; leave(3); active() = 5; pass(99); active() = 5");
    }

    void accountsHaveHeirsThatAreOthers() {
        due(START, "setHeir(1, 1) = throws.IllegalArgumentException; setHeir(1, 2) = -1");
    }

    void groupsAreAtMost6From0() {
        due("addGroup() = 0; 4 * addGroup(); addGroup() = 5; addGroup() = throws.IllegalStateException");
    }

    void groupsHaveMembersOnAllDaysLessThanThatOfTheEnd() {
        due(START, "join(3, 0, 4); isIn(3, 0) = true", "pass(1); isIn(3, 0) = true\n".repeat(3), "pass(1); isIn(3, 0) = false");
    }

    void groupsHaveGroupsInThemOnAllDaysLessThanThatOfTheEnd() {
        due(START, "join(3, 1, -1); nest(1, 0, 4); isIn(3, 0) = true", "pass(1); isIn(3, 0) = true\n".repeat(3),
            "pass(1); isIn(3, 0) = false");
    }

    void groupsNeverComeBackToThemselves() {
        due(START, "nest(0, 1, -1); nest(1, 2, 3); nest(2, 0, -1) = throws.UnsupportedOperationException; pass(2)",
            "nest(2, 0, -1) = throws.UnsupportedOperationException");
    }

    void groupsForgetWhatHasEndedWhenADayPasses() {
        due(START, "nest(0, 1, 3); join(3, 0, 3); pass(3) = 2; memberships() = 0; nest(1, 0, -1) = 1",
            "drop(3, 0) = throws.NoSuchElementException");
    }

    void foldersAreAtMost12From0() {
        due("addFolder(0, -1) = 0; 10 * addFolder(0, 0); addFolder(0, 0) = 11; addFolder(0, 0) = throws.IllegalStateException");
    }

    void foldersHaveParentsWithLowerNumbers() {
        due(START, "addFolder(1, 3) = throws.IndexOutOfBoundsException; addFolder(1, 2) = 3");
    }

    void foldersHandDownWhatIsTheirsAndWhatWasHandedToThem() {
        due(START, "shareWith(0, 3, 1); shareWith(1, 4, 2); right(3, 2) = 1; right(4, 2) = 2; right(4, 0) = 0");
    }

    void foldersHandNothingToABrokenOne() {
        due(START, "shareWith(0, 3, 1); shareWith(1, 4, 2); setBroken(2, true); right(3, 2) = 0; right(4, 2) = 0; right(3, 1) = 1");
    }

    void foldersAreNotBrokenAtFirst() {
        due(START, "setBroken(0, false) = false; setBroken(1, false) = false; setBroken(2, false) = false");
    }

    void rightsAre0ThenTheGreatestThen3() {
        due(START, "right(3, 2) = 0; shareWith(2, 3, 1); right(3, 2) = 1; shareWith(1, 3, 2); right(3, 2) = 2; right(1, 2) = 3");
    }

    void roomsAreAtMost4From0() {
        due("addGroup(); addRoom(0) = 0; 2 * addRoom(0); addRoom(0) = 3; addRoom(0) = throws.IllegalStateException");
    }

    void roomsAreReadByTheActiveAccountsOrTheWardenAlone() {
        due(START, "join(3, 0, -1); join(4, 0, -1); leave(4); readers(0) = 1; reads(3, 0) = true; reads(0, 0) = false",
            "leave(3); readers(0) = 1; reads(3, 0) = false; reads(0, 0) = true");
    }

    void leavingGivesKeepersByRisingNumbers() {
        due(START, "addFolder(1, 2); leave(1) = 3; owner(0) = 0; owner(2) = 2; owner(3) = 2");
    }

    void leavingLooksAtEachAccountOnTheChainOnce() {
        due(START, "setHeir(1, 3); setHeir(3, 4); setHeir(4, 3); leave(3); leave(4); leave(1) = 2; owner(0) = 0; owner(2) = 2");
    }

    void leavingAsksTheHeirsFirst() {
        due(START, "setHeir(1, 3); leave(1) = 2; owner(0) = 3; owner(2) = 3");
    }

    void leavingAsksTheOwnerOfTheParentThen() {
        due(START, "leave(1) = 2; owner(2) = 2");
    }

    void leavingComesToTheWardenAtLast() {
        due(START, "hold(1); leave(2) = 0; leave(1) = 2; owner(0) = 0; owner(1) = 2; owner(2) = 0");
    }

    void leavingLetsMembershipsAndSharesStay() {
        due(START, "join(3, 0, -1); shareWith(0, 3, 1); leave(3); memberships() = 1; isIn(3, 0) = true; shareWith(0, 4, 1) = 2");
    }

    void holdsKeepTheOwner() {
        due(START, "hold(2); leave(1) = 1; owner(2) = 1");
    }

    void holdsKeepTheOwnShares() {
        due(START, "join(4, 1, -1); shareWith(2, 3, 1); shareWithGroup(2, 1, 1); hold(2)", """
            shareWith(2, 3, 2) = throws.IllegalStateException
            shareWithGroup(2, 1, 2) = throws.IllegalStateException
            right(3, 2) = 1; right(4, 2) = 1
            """);
    }

    void holdsKeepWhetherTheFolderIsBroken() {
        due(START, "shareWith(0, 3, 1); hold(2); setBroken(2, true) = throws.IllegalStateException; right(3, 2) = 1; release(2)",
            "setBroken(2, true) = false");
    }

    void holdsDoNotKeepWhatIsHandedToTheFolder() {
        due(START, "hold(2); shareWith(0, 3, 1) = 1; right(3, 2) = 1; setBroken(1, true) = false; right(3, 2) = 0");
    }

    void holdsThatEndGiveAKeeperByTheSameRule() {
        due(START, "hold(2); leave(1); setHeir(1, 3); release(2) = 3");
    }

    void holdsThatEndLeaveAnActiveOwner() {
        due(START, "setHeir(1, 3); hold(2); release(2) = 1");
    }

    void exceptionsOfEachKindChangeNothing() {
        due(START, """
            join(3, 0, 9); nest(1, 0, 9); setHeir(1, 3); shareWith(0, 4, 1); setBroken(1, true); hold(1); leave(5); pass(3)
            setHeir(1, 6) = throws.IndexOutOfBoundsException
            setHeir(1, 1) = throws.IllegalArgumentException
            join(3, 0, 3) = throws.IllegalArgumentException
            join(5, 0, -1) = throws.UnsupportedOperationException
            nest(0, 1, -1) = throws.UnsupportedOperationException
            drop(4, 0) = throws.NoSuchElementException
            addFolder(5, 0) = throws.UnsupportedOperationException
            addFolder(1, 3) = throws.IndexOutOfBoundsException
            shareWith(1, 4, 2) = throws.IllegalStateException
            shareWithGroup(1, 0, 2) = throws.IllegalStateException
            setBroken(1, false) = throws.IllegalStateException
            addRoom(4) = throws.IndexOutOfBoundsException
            leave(0) = throws.UnsupportedOperationException
            leave(5) = throws.IllegalStateException
            hold(1) = throws.IllegalStateException
            release(0) = throws.IllegalStateException
            pass(100) = throws.IllegalArgumentException
            """);
    }

    void exceptionsThatAreDocumentedFirstAreThrown() {
        due(START, """
            leave(5); hold(1)
            setHeir(6, 6) = throws.IndexOutOfBoundsException
            join(5, 4, 0) = throws.IndexOutOfBoundsException
            join(5, 0, 0) = throws.IllegalArgumentException
            nest(4, 4, 0) = throws.IndexOutOfBoundsException
            nest(0, 0, 0) = throws.IllegalArgumentException
            addFolder(5, 3) = throws.IndexOutOfBoundsException
            shareWith(1, 6, 3) = throws.IndexOutOfBoundsException
            shareWith(1, 3, 3) = throws.IllegalArgumentException
            shareWithGroup(1, 4, 3) = throws.IndexOutOfBoundsException
            shareWithGroup(1, 3, 3) = throws.IllegalArgumentException
            holders(3, 4) = throws.IndexOutOfBoundsException
            """);
    }
}
