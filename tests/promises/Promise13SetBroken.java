/** "Tells whether a folder is broken. Returns whether it was before." */
final class Promise13SetBroken extends Cases {
    private static final String START = """
        2 * addAccount(); addFolder(1, -1); addFolder(1, 0); addFolder(1, 1); shareWith(0, 2, 1)
        """;

    void atFirstAFolderIsNotBroken() {
        due(START, "setBroken(1, false) = false");
    }

    void returnsFalseIfItWasNot() {
        due(START, "setBroken(1, true) = false");
    }

    void returnsTrueIfItWas() {
        due(START, "setBroken(1, true); setBroken(1, false) = true");
    }

    void returnsTrueIfItWasAndIsAgain() {
        due(START, "setBroken(1, true); setBroken(1, true) = true; setBroken(1, true) = true");
    }

    void returnsFalseIfItIsNoMore() {
        due(START, "setBroken(1, true); setBroken(1, false); setBroken(1, false) = false");
    }

    void nothingIsHandedDownToABrokenFolder() {
        due(START, "right(2, 1) = 1; setBroken(1, true); right(2, 1) = 0");
    }

    void nothingFromAboveIsHandedDownBelowABrokenFolder() {
        due(START, "right(2, 2) = 1; setBroken(1, true); right(2, 2) = 0");
    }

    void theFolderAboveABrokenOneKeepsItsShares() {
        due(START, "setBroken(1, true); right(2, 0) = 1");
    }

    void aBrokenFolderKeepsItsOwnShares() {
        due(START, "shareWith(1, 2, 2); setBroken(1, true); right(2, 1) = 2");
    }

    void aBrokenFolderHandsItsOwnSharesDown() {
        due(START, "shareWith(1, 2, 2); setBroken(1, true); right(2, 2) = 2");
    }

    void whatWasHandedDownIsHandedDownAgain() {
        due(START, "setBroken(1, true); setBroken(1, false); right(2, 1) = 1; right(2, 2) = 1");
    }

    void otherFoldersAreNotBroken() {
        due(START, "setBroken(1, true); setBroken(0, false) = false; setBroken(2, false) = false");
    }

    void aFolderWithoutAParentCanBeBroken() {
        due(START, "setBroken(0, true) = false; setBroken(0, true) = true; right(2, 0) = 1; right(2, 1) = 1");
    }

    void theLastOf12FoldersCanBeBroken() {
        due("12 * addFolder(0, -1); setBroken(11, true) = false; setBroken(11, true) = true; setBroken(10, true) = false");
    }

    void throwsIndexOutOfBoundsIfTheFolderIsTooSmall() {
        due(START, "setBroken(-1, true) = throws.IndexOutOfBoundsException");
    }

    void throwsIndexOutOfBoundsIfTheFolderIsTooLarge() {
        due(START, "setBroken(3, true) = throws.IndexOutOfBoundsException; setBroken(3, false) = throws.IndexOutOfBoundsException");
    }

    void throwsIndexOutOfBoundsIfTheFolderIsFarOff() {
        due(START, """
            setBroken(33, true) = throws.IndexOutOfBoundsException
            setBroken(-2147483648, true) = throws.IndexOutOfBoundsException
            setBroken(2147483647, true) = throws.IndexOutOfBoundsException
            """);
    }

    void throwsIndexOutOfBoundsIfThereAreNoFolders() {
        due("setBroken(0, true) = throws.IndexOutOfBoundsException");
    }

    void throwsIndexOutOfBoundsForTheFolder12OfTwelve() {
        due("12 * addFolder(0, -1); setBroken(12, true) = throws.IndexOutOfBoundsException");
    }

    void throwsIllegalStateIfAHeldFolderIsToBeBroken() {
        due(START, "hold(1); setBroken(1, true) = throws.IllegalStateException; right(2, 1) = 1");
    }

    void throwsIllegalStateIfAHeldFolderIsToBeBrokenNoMore() {
        due(START, "setBroken(1, true); hold(1); setBroken(1, false) = throws.IllegalStateException; right(2, 1) = 0");
    }

    void throwsIllegalStateIfAHeldFolderIsToStayAsItIs() {
        due(START, "hold(1); setBroken(1, false) = throws.IllegalStateException");
    }

    void aFolderAboveAHeldOneCanBeBroken() {
        due(START, "hold(2); setBroken(1, true) = false; right(2, 2) = 0");
    }

    void aFolderBelowAHeldOneCanBeBroken() {
        due(START, "hold(1); setBroken(2, true) = false; right(2, 2) = 0");
    }

    void aReleasedFolderCanBeBroken() {
        due(START, "hold(1); release(1); setBroken(1, true) = false");
    }

    void throwsIndexOutOfBoundsFirstIfAllFoldersAreHeld() {
        due(START, "hold(0); hold(1); hold(2); setBroken(3, true) = throws.IndexOutOfBoundsException");
    }
}
