/** "Adds a folder without shares." */
final class Promise10AddFolder extends Cases {
    private static final String START = "2 * addAccount()";

    void theFirstIsTheFolder0() {
        due(START, "addFolder(1, -1) = 0");
    }

    void theyAreNumberedOneByOne() {
        due(START, "addFolder(1, -1) = 0; addFolder(2, -1) = 1; addFolder(0, 0) = 2");
    }

    void itHasItsOwner() {
        due(START, "addFolder(2, -1); owner(0) = 2");
    }

    void theWardenCanBeItsOwner() {
        due(START, "addFolder(0, -1) = 0; owner(0) = 0");
    }

    void theLastOf10AccountsCanBeItsOwner() {
        due("9 * addAccount(); addFolder(9, -1) = 0; owner(0) = 9");
    }

    void itHasNoSharesForAccounts() {
        due(START, "addFolder(1, -1); shareWith(0, 0, 0) = 0; right(0, 0) = 0; right(2, 0) = 0");
    }

    void itHasNoSharesForGroups() {
        due(START, "addGroup(); join(2, 0, -1); addFolder(1, -1); shareWithGroup(0, 0, 0) = 0; right(2, 0) = 0");
    }

    void itHasNoSharesOfItsOwnThoughItsParentHas() {
        due(START, "addFolder(1, -1); shareWith(0, 2, 1); addFolder(1, 0); shareWith(1, 0, 0) = 0; right(2, 1) = 1");
    }

    void itIsNotBroken() {
        due(START, "addFolder(1, -1); setBroken(0, true) = false");
    }

    void itIsNotBrokenThoughItsParentIs() {
        due(START, "addFolder(1, -1); setBroken(0, true); addFolder(1, 0); setBroken(1, true) = false");
    }

    void itIsNotHeld() {
        due(START, "addFolder(1, -1); release(0) = throws.IllegalStateException");
    }

    void itIsNotHeldThoughItsParentIs() {
        due(START, "addFolder(1, -1); hold(0); addFolder(1, 0) = 1; release(1) = throws.IllegalStateException");
    }

    void minus1IsForNoParent() {
        due(START, "addFolder(1, -1); shareWith(0, 2, 2); addFolder(1, -1) = 1; right(2, 1) = 0");
    }

    void theFolder0CanBeItsParent() {
        due(START, "2 * addFolder(1, -1); shareWith(0, 2, 2); addFolder(1, 0) = 2; right(2, 2) = 2");
    }

    void theFolderBeforeCanBeItsParent() {
        due(START, "2 * addFolder(1, -1); shareWith(1, 2, 2); addFolder(1, 1) = 2; right(2, 2) = 2");
    }

    void theFolderOfAnotherCanBeItsParent() {
        due(START, "addFolder(2, -1); addFolder(1, 0) = 1; owner(1) = 1; owner(0) = 2");
    }

    void theTwelfthFolderIsAdded() {
        due(START, "11 * addFolder(1, -1); addFolder(1, 10) = 11; owner(11) = 1");
    }

    void throwsIndexOutOfBoundsIfTheOwnerIsTooSmall() {
        due(START, "addFolder(-1, -1) = throws.IndexOutOfBoundsException");
    }

    void throwsIndexOutOfBoundsIfTheOwnerIsTooLarge() {
        due(START, "addFolder(3, -1) = throws.IndexOutOfBoundsException");
    }

    void throwsIndexOutOfBoundsIfTheOwnerIsFarOff() {
        due(START, """
            addFolder(32, -1) = throws.IndexOutOfBoundsException
            addFolder(-2147483648, -1) = throws.IndexOutOfBoundsException
            addFolder(2147483647, -1) = throws.IndexOutOfBoundsException
            """);
    }

    void throwsIndexOutOfBoundsForTheAccount10OfTen() {
        due("9 * addAccount(); addFolder(10, -1) = throws.IndexOutOfBoundsException");
    }

    void throwsIndexOutOfBoundsIfTheParentIsLessThanMinus1() {
        due(START, "addFolder(1, -1); addFolder(1, -2) = throws.IndexOutOfBoundsException");
    }

    void throwsIndexOutOfBoundsIfTheParentIsTooLarge() {
        due(START, "addFolder(1, -1); addFolder(1, 2) = throws.IndexOutOfBoundsException");
    }

    void throwsIndexOutOfBoundsIfTheParentIsTheFolderItself() {
        due(START, "addFolder(1, -1); addFolder(1, 1) = throws.IndexOutOfBoundsException");
    }

    void throwsIndexOutOfBoundsIfThereIsNoFolderToBeTheParent() {
        due(START, "addFolder(1, 0) = throws.IndexOutOfBoundsException");
    }

    void throwsIndexOutOfBoundsIfTheParentIsFarOff() {
        due(START, """
            addFolder(1, -1)
            addFolder(1, 32) = throws.IndexOutOfBoundsException
            addFolder(1, -2147483648) = throws.IndexOutOfBoundsException
            addFolder(1, 2147483647) = throws.IndexOutOfBoundsException
            """);
    }

    void throwsUnsupportedOperationIfTheOwnerHasLeft() {
        due(START, "leave(2); addFolder(2, -1) = throws.UnsupportedOperationException");
    }

    void throwsUnsupportedOperationIfTheOwnerHasLeftAndThereIsAParent() {
        due(START, "leave(2); addFolder(1, -1); addFolder(2, 0) = throws.UnsupportedOperationException");
    }

    void throwsIllegalStateIfThereAre12Folders() {
        due(START, "12 * addFolder(1, -1); addFolder(1, -1) = throws.IllegalStateException");
    }

    void throwsIllegalStateIfThereAre12FoldersAndTheLastIsToBeTheParent() {
        due(START, "12 * addFolder(1, -1); addFolder(1, 11) = throws.IllegalStateException");
    }

    void throwsIndexOutOfBoundsFirstIfALeaverNamesNoSuchParent() {
        due(START, "leave(2); addFolder(2, 0) = throws.IndexOutOfBoundsException");
    }

    void throwsIndexOutOfBoundsFirstIfThereAre12FoldersAndNoSuchOwner() {
        due(START, "12 * addFolder(1, -1); addFolder(3, -1) = throws.IndexOutOfBoundsException");
    }

    void throwsIndexOutOfBoundsFirstIfThereAre12FoldersAndNoSuchParent() {
        due(START, "12 * addFolder(1, -1); addFolder(1, 12) = throws.IndexOutOfBoundsException");
    }

    void throwsUnsupportedOperationFirstIfThereAre12FoldersAndTheOwnerHasLeft() {
        due(START, "leave(2); 12 * addFolder(1, -1); addFolder(2, -1) = throws.UnsupportedOperationException");
    }

    void throwsIndexOutOfBoundsFirstIfAllIsWrong() {
        due(START, "leave(2); 12 * addFolder(1, -1); addFolder(2, 12) = throws.IndexOutOfBoundsException");
    }
}
