/** "Returns the share of all pairs of an active account and a folder in which the account has a right of at least 1." */
final class Promise28OpenShare extends Cases {
    private static final String START = "2 * addAccount(); addGroup(); addFolder(1, -1)";

    void throwsArithmeticExceptionIfThereAreNoFolders() {
        due("openShare() = throws.ArithmeticException");
    }

    void throwsArithmeticExceptionIfThereAreNoFoldersButAllElse() {
        due("2 * addAccount(); addGroup(); join(1, 0, -1); addRoom(0); openShare() = throws.ArithmeticException");
    }

    void itIs1IfTheWardenIsAlone() {
        due("addFolder(0, -1); openShare() = 1");
    }

    void itIs1IfAllPairsAreOpen() {
        due(START, "shareWith(0, 0, 1); shareWith(0, 2, 2); openShare() = 1");
    }

    void itIs0IfNoPairIsOpen() {
        due("addAccount(); addFolder(1, -1); hold(0); leave(1); openShare() = 0");
    }

    void itIsAThirdOfTheOwnerAmong3() {
        due(START, "openShare() = 1/3");
    }

    void itIsTwoThirdsWithAShareToRead() {
        due(START, "shareWith(0, 2, 1); openShare() = 2/3");
    }

    void itIsTwoThirdsWithAShareToWrite() {
        due(START, "shareWith(0, 2, 2); openShare() = 2/3");
    }

    void aShareForTheOwnerOpensNoMore() {
        due(START, "shareWith(0, 1, 2); openShare() = 1/3");
    }

    void aShareForAGroupOpensThePairsOfItsAccounts() {
        due(START, "shareWithGroup(0, 0, 1); openShare() = 1/3; join(0, 0, 5); join(2, 0, -1); openShare() = 3/3");
    }

    void anEndClosesAPair() {
        due(START, "shareWithGroup(0, 0, 1); join(0, 0, 5); join(2, 0, -1); pass(4); openShare() = 1; pass(1); openShare() = 2/3");
    }

    void allFoldersCount() {
        due(START, "addFolder(1, -1); addFolder(2, -1); shareWith(1, 0, 1); openShare() = 4/9");
    }

    void whatIsHandedDownOpensPairs() {
        due(START, "addFolder(1, 0); shareWith(0, 2, 1); openShare() = 4/6; setBroken(1, true); openShare() = 3/6");
    }

    void aLeaverIsInNoPair() {
        due(START, "shareWith(0, 2, 1); leave(2); openShare() = 1/2");
    }

    void theHeldFolderOfALeaverIsInPairs() {
        due(START, "addFolder(2, -1); hold(0); leave(1); openShare() = 1/4; shareWith(1, 0, 1); openShare() = 2/4");
    }

    void itIsATenthOf10AccountsAnd12Folders() {
        due("9 * addAccount(); 12 * addFolder(9, -1); openShare() = 12/120");
    }

    void itIs1OfAll10AccountsAndAll12Folders() {
        StringBuilder rows = new StringBuilder("9 * addAccount(); 12 * addFolder(0, -1)\n");
        for (int folder = 0; folder < 12; folder++) {
            for (int account = 1; account < 10; account++) {
                rows.append("shareWith(" + folder + ", " + account + ", 1)\n");
            }
        }
        due(rows.toString(), "openShare() = 1");
    }

    void itIsSevenNinthsAsAFloat() {
        due(START, "8 * addFolder(1, -1); leave(2); hold(0); hold(1); leave(1); openShare() = 7/9");
    }
}
