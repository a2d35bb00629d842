/** "Shares a folder with an account, in place of a share that it has for it." */
final class Promise11ShareWith extends ShareCases {
    Promise11ShareWith() {
        super("shareWith");
    }

    void aShareForTheGroupOfTheSameNumberStandsBesideIt() {
        due("""
            addAccount(); 2 * addGroup(); addFolder(0, -1)
            shareWithGroup(0, 1, 1) = 1; shareWith(0, 1, 2) = 2; shareWith(0, 1, 0) = 1
            join(1, 1, -1); right(1, 0) = 1
            """);
    }

    void aShareForTheOwnerIsCounted() {
        due("addAccount(); addFolder(1, -1); shareWith(0, 1, 1) = 1; right(1, 0) = 3");
    }

    void aShareForTheWardenGivesItARight() {
        due("addAccount(); addFolder(1, -1); shareWith(0, 0, 1) = 1; right(0, 0) = 1");
    }

    void aShareForALeaverIsCountedAndLeadsToNothing() {
        due("2 * addAccount(); addFolder(1, -1); leave(2); shareWith(0, 2, 2) = 1; right(2, 0) = 0");
    }

    void aShareForALeaverCanBeTaken() {
        due("2 * addAccount(); addFolder(1, -1); shareWith(0, 2, 2); leave(2); shareWith(0, 2, 0) = 0");
    }

    void aFolderCanHaveSharesForAll10AccountsAndAll6Groups() {
        StringBuilder rows = new StringBuilder("9 * addAccount(); 6 * addGroup(); addFolder(0, -1)\n");
        for (int account = 0; account < 10; account++) {
            rows.append("shareWith(0, " + account + ", 1) = " + (account + 1) + "\n");
        }
        for (int group = 0; group < 6; group++) {
            rows.append("shareWithGroup(0, " + group + ", 2) = " + (group + 11) + "\n");
        }
        due(rows.toString());
    }

    void throwsIndexOutOfBoundsForTheAccount10OfTen() {
        due("9 * addAccount(); addFolder(0, -1); shareWith(0, 9, 1) = 1; shareWith(0, 10, 1) = throws.IndexOutOfBoundsException");
    }
}
