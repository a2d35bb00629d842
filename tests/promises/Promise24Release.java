/** "Releases a folder. Returns its owner then." */
final class Promise24Release extends Cases {
    private static final String START = """
        4 * addAccount(); addFolder(2, -1); addFolder(1, 0); addFolder(1, 1)
        """;

    void returnsTheOwnerThatIsActive() {
        due(START, "setHeir(1, 3); hold(1); release(1) = 1; owner(1) = 1");
    }

    void returnsTheWardenAsTheOwner() {
        due("addAccount(); addFolder(0, -1); setHeir(0, 1); hold(0); release(0) = 0; owner(0) = 0");
    }

    void returnsTheHeirIfTheOwnerHasLeft() {
        due(START, "setHeir(1, 3); hold(1); leave(1); release(1) = 3; owner(1) = 3");
    }

    void returnsTheHeirsHeirIfBothHaveLeft() {
        due(START, "setHeir(1, 3); setHeir(3, 4); hold(1); leave(1); leave(3); release(1) = 4");
    }

    void returnsTheHeirOfTheDayOfItsRelease() {
        due(START, "setHeir(1, 3); hold(1); leave(1); setHeir(1, 4); release(1) = 4");
    }

    void returnsTheOwnerOfTheParentWithoutAnHeir() {
        due(START, "hold(1); leave(1); release(1) = 2; owner(1) = 2");
    }

    void returnsTheOwnerOfTheParentIfAChainOfLeaversComesBack() {
        due(START, "setHeir(1, 3); setHeir(3, 1); leave(3); hold(1); leave(1); release(1) = 2");
    }

    void returnsTheWardenWithoutAnHeirAndAParent() {
        due(START, "hold(0); leave(2); release(0) = 0; owner(0) = 0");
    }

    void returnsTheWardenIfTheOwnerOfTheParentHasLeft() {
        due(START, "hold(0); hold(1); leave(2); leave(1); release(1) = 0");
    }

    void returnsTheWardenIfTheParentOfTheLeaverIsHeld() {
        due(START, "hold(1); hold(2); leave(1); release(2) = 0; owner(1) = 1");
    }

    void returnsTheKeeperOfTheParentIfThatWasReleasedFirst() {
        due(START, "hold(1); hold(2); leave(1); release(1) = 2; release(2) = 2");
    }

    void onlyTheReleasedFolderGetsAKeeper() {
        due(START, "setHeir(1, 3); hold(1); hold(2); leave(1); release(1) = 3; owner(2) = 1");
    }

    void theOthersStayHeld() {
        due(START, "hold(0); hold(1); hold(2); release(1); hold(1) = 3");
    }

    void itCanBeSharedAndBrokenAgain() {
        due(START, "hold(1); release(1); shareWith(1, 3, 1) = 1; setBroken(1, true) = false");
    }

    void itGetsAKeeperWhenItsOwnerLeavesThen() {
        due(START, "hold(1); release(1); leave(1) = 2; owner(1) = 2");
    }

    void itsSharesAndWhetherItIsBrokenStay() {
        due(START, "shareWith(1, 3, 2); setBroken(1, true); hold(1); leave(1); release(1) = 2; right(3, 1) = 2; setBroken(1, true) = true");
    }

    void theLastOf12FoldersCanBeReleased() {
        due("addAccount(); 11 * addFolder(0, -1); addFolder(1, -1); hold(11); leave(1); release(11) = 0; owner(11) = 0");
    }

    void throwsIllegalStateIfItIsNotHeld() {
        due(START, "release(1) = throws.IllegalStateException");
    }

    void throwsIllegalStateIfOnlyOthersAreHeld() {
        due(START, "hold(0); hold(2); release(1) = throws.IllegalStateException");
    }

    void throwsIllegalStateIfItIsReleased() {
        due(START, "hold(1); release(1); release(1) = throws.IllegalStateException");
    }

    void throwsIllegalStateIfItIsReleasedFromALeaver() {
        due(START, "hold(1); leave(1); release(1); release(1) = throws.IllegalStateException; owner(1) = 2");
    }

    void throwsIndexOutOfBoundsIfTheFolderIsTooSmall() {
        due(START, "release(-1) = throws.IndexOutOfBoundsException");
    }

    void throwsIndexOutOfBoundsIfTheFolderIsTooLarge() {
        due(START, "release(3) = throws.IndexOutOfBoundsException");
    }

    void throwsIndexOutOfBoundsIfTheFolderIsFarOff() {
        due(START, """
            hold(0); hold(1)
            release(32) = throws.IndexOutOfBoundsException
            release(-2147483648) = throws.IndexOutOfBoundsException
            release(2147483647) = throws.IndexOutOfBoundsException
            """);
    }

    void throwsIndexOutOfBoundsIfThereAreNoFolders() {
        due("release(0) = throws.IndexOutOfBoundsException");
    }

    void throwsIndexOutOfBoundsForTheFolder12OfTwelve() {
        due("12 * addFolder(0, -1); release(12) = throws.IndexOutOfBoundsException");
    }
}
