/** "Holds a folder. Returns the number of folders that are held." */
final class Promise23Hold extends Cases {
    private static final String START = """
        3 * addAccount(); 2 * addGroup(); addFolder(1, -1); addFolder(1, 0); addFolder(1, 1)
        """;

    void returns1OfTheFirst() {
        due(START, "hold(1) = 1");
    }

    void returnsTheNumberOfThoseThatAreHeld() {
        due(START, "hold(2) = 1; hold(0) = 2; hold(1) = 3");
    }

    void aReleasedOneIsNotCounted() {
        due(START, "hold(0); hold(1); release(0); hold(2) = 2");
    }

    void aReleasedOneCanBeHeldAgain() {
        due(START, "hold(0); release(0); hold(0) = 1");
    }

    void all12FoldersCanBeHeld() {
        due("12 * addFolder(0, -1)", """
            hold(0) = 1; hold(1) = 2; hold(2) = 3; hold(3) = 4; hold(4) = 5; hold(5) = 6
            hold(6) = 7; hold(7) = 8; hold(8) = 9; hold(9) = 10; hold(10) = 11; hold(11) = 12
            """);
    }

    void aFolderOfTheWardenCanBeHeld() {
        due("addFolder(0, -1); hold(0) = 1");
    }

    void itsOwnerDoesNotChange() {
        due(START, "setHeir(1, 2); hold(1); leave(1); owner(1) = 1");
    }

    void itsSharesForAccountsDoNotChange() {
        due(START, "shareWith(1, 2, 1); hold(1); shareWith(1, 2, 2) = throws.IllegalStateException; right(2, 1) = 1");
    }

    void itsSharesForGroupsDoNotChange() {
        due(START, "join(2, 0, -1); shareWithGroup(1, 0, 1); hold(1); shareWithGroup(1, 0, 0) = throws.IllegalStateException",
            "right(2, 1) = 1");
    }

    void whetherItIsBrokenDoesNotChange() {
        due(START, "shareWith(0, 2, 1); hold(1); setBroken(1, true) = throws.IllegalStateException; right(2, 1) = 1");
    }

    void whatIsHandedToItChanges() {
        due(START, "hold(1); shareWith(0, 2, 2) = 1; right(2, 1) = 2; setBroken(0, true) = false; shareWith(0, 2, 0) = 0; right(2, 1) = 0");
    }

    void whoIsInTheGroupsOfItsSharesChanges() {
        due(START, "shareWithGroup(1, 0, 1); hold(1); join(2, 0, 5); right(2, 1) = 1; pass(5); right(2, 1) = 0");
    }

    void theFoldersAboveAndBelowAreNotHeld() {
        due(START, "hold(1); release(0) = throws.IllegalStateException; release(2) = throws.IllegalStateException");
    }

    void aFolderCanBeAddedBelow() {
        due(START, "hold(1); addFolder(2, 1) = 3; hold(3) = 2");
    }

    void itDoesNotGetAKeeperAsLongAsItIsHeld() {
        due(START, "hold(1); leave(1); setHeir(1, 2); leave(3); owner(1) = 1");
    }

    void throwsIllegalStateIfItIsHeld() {
        due(START, "hold(1); hold(1) = throws.IllegalStateException");
    }

    void throwsIllegalStateIfItIsHeldAndItsOwnerHasLeft() {
        due(START, "hold(1); leave(1); hold(1) = throws.IllegalStateException");
    }

    void throwsIllegalStateIfTheLastOf12IsHeld() {
        due("12 * addFolder(0, -1); hold(11); hold(11) = throws.IllegalStateException");
    }

    void throwsIndexOutOfBoundsIfTheFolderIsTooSmall() {
        due(START, "hold(-1) = throws.IndexOutOfBoundsException");
    }

    void throwsIndexOutOfBoundsIfTheFolderIsTooLarge() {
        due(START, "hold(3) = throws.IndexOutOfBoundsException");
    }

    void throwsIndexOutOfBoundsIfTheFolderIsFarOff() {
        due(START, """
            hold(32) = throws.IndexOutOfBoundsException
            hold(-2147483648) = throws.IndexOutOfBoundsException
            hold(2147483647) = throws.IndexOutOfBoundsException
            """);
    }

    void throwsIndexOutOfBoundsIfThereAreNoFolders() {
        due("hold(0) = throws.IndexOutOfBoundsException");
    }

    void throwsIndexOutOfBoundsForTheFolder12OfTwelve() {
        due("12 * addFolder(0, -1); hold(12) = throws.IndexOutOfBoundsException");
    }

    void throwsIndexOutOfBoundsFirstIfAllFoldersAreHeld() {
        due(START, "hold(0); hold(1); hold(2); hold(3) = throws.IndexOutOfBoundsException");
    }
}
