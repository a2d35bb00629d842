/** "Returns the mean number of folders of the active accounts that own some." */
final class Promise29MeanOwned extends Cases {
    private static final String START = "3 * addAccount()";

    void throwsArithmeticExceptionIfThereAreNoFolders() {
        due(START, "meanOwned() = throws.ArithmeticException");
    }

    void throwsArithmeticExceptionInANewObject() {
        due("meanOwned() = throws.ArithmeticException");
    }

    void throwsArithmeticExceptionIfAllFoldersAreHeldOnesOfLeavers() {
        due(START, "addFolder(1, -1); addFolder(2, -1); hold(0); hold(1); leave(1); leave(2); meanOwned() = throws.ArithmeticException");
    }

    void itIs1OfOneFolder() {
        due(START, "addFolder(1, -1); meanOwned() = 1");
    }

    void itIs1IfEachOwnsOne() {
        due(START, "addFolder(1, -1); addFolder(2, -1); addFolder(3, -1); addFolder(0, -1); meanOwned() = 1");
    }

    void theFoldersOfTheWardenCount() {
        due(START, "2 * addFolder(0, -1); meanOwned() = 2; addFolder(1, -1); meanOwned() = 3/2");
    }

    void thoseThatOwnNoneDoNotCount() {
        due("9 * addAccount(); 3 * addFolder(4, -1); meanOwned() = 3");
    }

    void itIsAHalfMore() {
        due(START, "2 * addFolder(1, -1); addFolder(2, -1); meanOwned() = 3/2");
    }

    void itIsAThirdMoreAsADouble() {
        due(START, "2 * addFolder(1, -1); addFolder(2, -1); addFolder(3, -1); meanOwned() = 4/3");
    }

    void itIs12OfAll12FoldersOfOne() {
        due("9 * addAccount(); 12 * addFolder(9, -1); meanOwned() = 12");
    }

    void itIs12By10OfAllFoldersAndAccounts() {
        due("9 * addAccount()", """
            addFolder(0, -1); addFolder(1, -1); addFolder(2, -1); addFolder(3, -1); addFolder(4, -1); addFolder(5, -1)
            addFolder(6, -1); addFolder(7, -1); addFolder(8, -1); addFolder(9, -1); addFolder(9, -1); addFolder(9, -1)
            meanOwned() = 12/10
            """);
    }

    void theHeldFolderOfALeaverDoesNotCount() {
        due(START, "addFolder(1, -1); addFolder(2, -1); addFolder(2, -1); hold(0); leave(1); meanOwned() = 2");
    }

    void theHeldFolderOfAnActiveOwnerCounts() {
        due(START, "addFolder(1, -1); addFolder(2, -1); addFolder(2, -1); hold(0); meanOwned() = 3/2");
    }

    void theFoldersOfALeaverCountForTheirKeepers() {
        due(START, "setHeir(1, 3); addFolder(1, -1); addFolder(2, -1); leave(1); meanOwned() = 1; leave(3); meanOwned() = 2/2");
    }

    void aReleasedFolderOfALeaverCountsForItsKeeper() {
        due(START, "addFolder(1, -1); hold(0); leave(1); release(0); meanOwned() = 1");
    }

    void sharesMakeNoOwners() {
        due(START, "2 * addFolder(1, -1); shareWith(0, 2, 2); meanOwned() = 2");
    }
}
