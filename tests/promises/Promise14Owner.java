/** "Returns the owner of a folder." */
final class Promise14Owner extends Cases {
    private static final String START = "3 * addAccount(); addFolder(2, -1); addFolder(0, 0)";

    void atFirstItIsTheOneItWasMadeFor() {
        due(START, "owner(0) = 2");
    }

    void itCanBeTheWarden() {
        due(START, "owner(1) = 0");
    }

    void itCanBeTheLastOf10AccountsOfTheLastOf12Folders() {
        due("9 * addAccount(); 11 * addFolder(0, -1); addFolder(9, -1); owner(11) = 9");
    }

    void afterTheOwnersLeavingItIsTheHeir() {
        due(START, "setHeir(2, 3); leave(2); owner(0) = 3");
    }

    void afterTheOwnersLeavingItIsTheWarden() {
        due(START, "leave(2); owner(0) = 0");
    }

    void ofAHeldFolderItStaysTheLeaver() {
        due(START, "setHeir(2, 3); hold(0); leave(2); owner(0) = 2");
    }

    void ofAReleasedFolderItIsTheKeeper() {
        due(START, "setHeir(2, 3); hold(0); leave(2); release(0); owner(0) = 3");
    }

    void aShareToWriteMakesNobodyTheOwner() {
        due(START, "shareWith(0, 3, 2); owner(0) = 2");
    }

    void throwsIndexOutOfBoundsIfTheFolderIsTooSmall() {
        due(START, "owner(-1) = throws.IndexOutOfBoundsException");
    }

    void throwsIndexOutOfBoundsIfTheFolderIsTooLarge() {
        due(START, "owner(2) = throws.IndexOutOfBoundsException");
    }

    void throwsIndexOutOfBoundsIfTheFolderIsFarOff() {
        due(START, """
            owner(32) = throws.IndexOutOfBoundsException
            owner(-2147483648) = throws.IndexOutOfBoundsException
            owner(2147483647) = throws.IndexOutOfBoundsException
            """);
    }

    void throwsIndexOutOfBoundsIfThereAreNoFolders() {
        due("owner(0) = throws.IndexOutOfBoundsException");
    }

    void throwsIndexOutOfBoundsForTheFolder12OfTwelve() {
        due("12 * addFolder(0, -1); owner(12) = throws.IndexOutOfBoundsException");
    }
}
