/** "Shares a folder with a group, in place of a share that it has for it." */
final class Promise12ShareWithGroup extends ShareCases {
    Promise12ShareWithGroup() {
        super("shareWithGroup");
    }

    void aShareForTheAccountOfTheSameNumberStandsBesideIt() {
        due("""
            addAccount(); 2 * addGroup(); addFolder(0, -1)
            shareWith(0, 1, 1) = 1; shareWithGroup(0, 1, 2) = 2; shareWithGroup(0, 1, 0) = 1
            right(1, 0) = 1
            """);
    }

    void aShareForAnEmptyGroupIsCounted() {
        due("addAccount(); addGroup(); addFolder(0, -1); shareWithGroup(0, 0, 2) = 1; holders(0, 1) = 1");
    }

    void whoJoinsLaterGetsTheRight() {
        due("addAccount(); addGroup(); addFolder(0, -1); shareWithGroup(0, 0, 2); join(1, 0, -1); right(1, 0) = 2");
    }

    void whoIsDroppedLosesTheRight() {
        due("addAccount(); addGroup(); addFolder(0, -1); shareWithGroup(0, 0, 2); join(1, 0, -1); drop(1, 0); right(1, 0) = 0");
    }

    void aFolderCanHaveSharesForAll6Groups() {
        due("6 * addGroup(); addFolder(0, -1)", """
            shareWithGroup(0, 0, 1) = 1; shareWithGroup(0, 1, 2) = 2; shareWithGroup(0, 2, 1) = 3
            shareWithGroup(0, 3, 2) = 4; shareWithGroup(0, 4, 1) = 5; shareWithGroup(0, 5, 2) = 6
            """);
    }

    void throwsIndexOutOfBoundsIfThereAreNoGroups() {
        due("addFolder(0, -1); shareWithGroup(0, 0, 1) = throws.IndexOutOfBoundsException");
    }

    void throwsIndexOutOfBoundsForTheGroup6OfSix() {
        due("6 * addGroup(); addFolder(0, -1); shareWithGroup(0, 6, 1) = throws.IndexOutOfBoundsException");
    }
}
