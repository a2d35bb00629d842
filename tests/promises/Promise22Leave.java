/** "Lets an account leave. Returns the number of folders that get a keeper." */
final class Promise22Leave extends Cases {
    private static final String START = "5 * addAccount(); 2 * addGroup()";

    void returns0WithoutFolders() {
        due(START, "leave(1) = 0");
    }

    void returns0IfOnlyOthersOwnFolders() {
        due(START, "addFolder(0, -1); addFolder(2, 0); leave(1) = 0; owner(0) = 0; owner(1) = 2");
    }

    void returns1OfOneFolder() {
        due(START, "addFolder(1, -1); leave(1) = 1; owner(0) = 0");
    }

    void returnsTheNumberOfItsFoldersAmongOthers() {
        due(START, "addFolder(1, -1); addFolder(2, -1); addFolder(1, -1); leave(1) = 2; owner(1) = 2");
    }

    void returns12OfAll12Folders() {
        due(START, "setHeir(1, 3); 12 * addFolder(1, -1); leave(1) = 12; owner(0) = 3; owner(11) = 3");
    }

    void aFolderThatIsHeldIsNotCounted() {
        due(START, "3 * addFolder(1, -1); hold(1); leave(1) = 2");
    }

    void aFolderThatIsHeldKeepsItsOwner() {
        due(START, "setHeir(1, 3); 3 * addFolder(1, -1); hold(1); leave(1); owner(0) = 3; owner(1) = 1; owner(2) = 3");
    }

    void returns0IfAllItsFoldersAreHeld() {
        due(START, "2 * addFolder(1, -1); hold(0); hold(1); leave(1) = 0");
    }

    void aFolderThatWasReleasedIsCounted() {
        due(START, "addFolder(1, -1); hold(0); release(0); leave(1) = 1; owner(0) = 0");
    }

    void theAccountIsNoMoreActive() {
        due(START, "active() = 6; leave(1); active() = 5; addFolder(1, -1) = throws.UnsupportedOperationException");
    }

    void theOthersStayActive() {
        due(START, "leave(3); addFolder(2, -1) = 0; addFolder(4, -1) = 1");
    }

    void theFoldersGoToTheHeir() {
        due(START, "setHeir(1, 2); addFolder(1, -1); leave(1) = 1; owner(0) = 2");
    }

    void theFoldersGoToTheFirstActiveHeirOnTheChain() {
        due(START, "setHeir(1, 2); setHeir(2, 3); setHeir(3, 4); leave(2); leave(3); addFolder(1, -1); leave(1) = 1; owner(0) = 4");
    }

    void aChainThatComesBackToTheLeaverDoesNotFindIt() {
        due(START, "setHeir(1, 2); setHeir(2, 1); leave(2); addFolder(1, -1); leave(1) = 1; owner(0) = 0");
    }

    void aChainThatGoesRoundWithoutTheLeaverIsLookedAtOnce() {
        due(START, "setHeir(1, 2); setHeir(2, 3); setHeir(3, 2); leave(2); leave(3); addFolder(4, -1); addFolder(1, 0)",
            "leave(1) = 1; owner(1) = 4");
    }

    void theFoldersGoToTheOwnersOfTheirParents() {
        due(START, "addFolder(2, -1); addFolder(3, -1); addFolder(1, 0); addFolder(1, 1); leave(1) = 2; owner(2) = 2; owner(3) = 3");
    }

    void theFoldersWithoutParentsGoToTheWarden() {
        due(START, "addFolder(2, -1); addFolder(1, -1); addFolder(1, 0); leave(1) = 2; owner(1) = 0; owner(2) = 2");
    }

    void theFoldersGetTheirKeepersByRisingNumbers() {
        due(START, "addFolder(2, -1); addFolder(1, 0); addFolder(1, 1); addFolder(1, 2); leave(1) = 3",
            "owner(1) = 2; owner(2) = 2; owner(3) = 2");
    }

    void theFoldersBelowAHeldOneOfTheLeaverGoToTheWarden() {
        due(START, "addFolder(2, -1); addFolder(1, 0); addFolder(1, 1); hold(1); leave(1) = 1; owner(1) = 1; owner(2) = 0");
    }

    void theFoldersBelowAHeldOneOfAnotherLeaverGoToTheWarden() {
        due(START, "addFolder(2, -1); addFolder(1, 0); hold(0); leave(2); leave(1) = 1; owner(0) = 2; owner(1) = 0");
    }

    void theFoldersBelowAHeldOneOfAnActiveOwnerGoToThat() {
        due(START, "addFolder(2, -1); addFolder(1, 0); hold(0); leave(1) = 1; owner(1) = 2");
    }

    void theKeepersLeaveTooAndTheFoldersGoOn() {
        due(START, "setHeir(1, 2); setHeir(2, 3); addFolder(1, -1); leave(1) = 1; addFolder(2, -1); leave(2) = 2",
            "owner(0) = 3; owner(1) = 3");
    }

    void afterAllHaveLeftTheWardenOwnsAllFolders() {
        due(START, "addFolder(1, -1); addFolder(2, 0); addFolder(3, 1); addFolder(4, 2); addFolder(5, 3)",
            "leave(5) = 1; leave(3) = 1; leave(1) = 1; leave(2) = 2; leave(4) = 2; active() = 1",
            "owner(0) = 0; owner(1) = 0; owner(2) = 0; owner(3) = 0; owner(4) = 0");
    }

    void theKeeperHasTheRightOfAnOwner() {
        due(START, "setHeir(1, 2); addFolder(1, -1); shareWith(0, 2, 1); leave(1); right(2, 0) = 3; right(1, 0) = 0");
    }

    void itsMembershipsStay() {
        due(START, "join(1, 0, -1); join(1, 1, 5); leave(1); memberships() = 2; pass(5) = 1");
    }

    void itsMembershipsLeadToNothing() {
        due(START, "addFolder(2, -1); shareWithGroup(0, 0, 2); addRoom(0); join(1, 0, -1); leave(1)",
            "right(1, 0) = 0; rightByWalking(1, 0) = 0; reads(1, 0) = false; holders(0, 1) = 1");
    }

    void theSharesForItStay() {
        due(START, "addFolder(2, -1); shareWith(0, 1, 2); shareWith(0, 3, 1); leave(1); shareWith(0, 4, 1) = 3");
    }

    void theSharesForItLeadToNothing() {
        due(START, "addFolder(2, -1); shareWith(0, 1, 2); leave(1); right(1, 0) = 0; rightByWalking(1, 0) = 0; holders(0, 1) = 1");
    }

    void theSharesOfItsFoldersStay() {
        due(START, "addFolder(1, -1); shareWith(0, 3, 1); leave(1); right(3, 0) = 1; shareWith(0, 4, 2) = 2");
    }

    void itsBrokenFoldersStayBroken() {
        due(START, "addFolder(1, -1); setBroken(0, true); leave(1); setBroken(0, true) = true");
    }

    void itsHeirStays() {
        due(START, "setHeir(1, 2); leave(1); setHeir(1, -1) = 2");
    }

    void itStaysTheHeirOfOthers() {
        due(START, "setHeir(2, 1); leave(1); setHeir(2, -1) = 1");
    }

    void theLastOf10AccountsCanLeave() {
        due("9 * addAccount(); addFolder(9, -1); leave(9) = 1; active() = 9");
    }

    void throwsUnsupportedOperationIfItIsTheWarden() {
        due(START, "leave(0) = throws.UnsupportedOperationException; active() = 6");
    }

    void throwsUnsupportedOperationIfItIsTheWardenAlone() {
        due("leave(0) = throws.UnsupportedOperationException");
    }

    void throwsUnsupportedOperationIfItIsTheWardenWithAnHeirAndFolders() {
        due(START, "setHeir(0, 1); addFolder(0, -1); leave(0) = throws.UnsupportedOperationException; owner(0) = 0");
    }

    void throwsIllegalStateIfItHasLeft() {
        due(START, "leave(1); leave(1) = throws.IllegalStateException");
    }

    void throwsIllegalStateIfItHasLeftAndOwnsAFolderThatIsHeld() {
        due(START, "addFolder(1, -1); hold(0); leave(1); leave(1) = throws.IllegalStateException; owner(0) = 1");
    }

    void throwsIllegalStateIfItHasLeftAfterOthers() {
        due(START, "leave(1); leave(5); leave(5) = throws.IllegalStateException; leave(1) = throws.IllegalStateException");
    }

    void throwsIndexOutOfBoundsIfItIsTooSmall() {
        due(START, "leave(-1) = throws.IndexOutOfBoundsException");
    }

    void throwsIndexOutOfBoundsIfItIsTooLarge() {
        due(START, "leave(6) = throws.IndexOutOfBoundsException");
    }

    void throwsIndexOutOfBoundsIfItIsFarOff() {
        due(START, """
            leave(33) = throws.IndexOutOfBoundsException
            leave(-2147483648) = throws.IndexOutOfBoundsException
            leave(2147483647) = throws.IndexOutOfBoundsException
            """);
    }

    void throwsIndexOutOfBoundsForTheAccount10OfTen() {
        due("9 * addAccount(); leave(10) = throws.IndexOutOfBoundsException");
    }
}
