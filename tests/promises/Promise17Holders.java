/** "Returns how many accounts have at least a right to a folder." */
final class Promise17Holders extends Cases {
    private static final String START = """
        4 * addAccount(); 2 * addGroup(); addFolder(1, -1); addFolder(2, 0)
        """;

    void theOwnerHasEachRight() {
        due(START, "holders(0, 1) = 1; holders(0, 2) = 1; holders(0, 3) = 1");
    }

    void aShareToReadIsAtLeast1() {
        due(START, "shareWith(0, 3, 1); holders(0, 1) = 2; holders(0, 2) = 1; holders(0, 3) = 1");
    }

    void aShareToWriteIsAtLeast1And2() {
        due(START, "shareWith(0, 3, 2); holders(0, 1) = 2; holders(0, 2) = 2; holders(0, 3) = 1");
    }

    void theWardenIsOneOfThem() {
        due(START, "shareWith(0, 0, 1); holders(0, 1) = 2");
    }

    void theAccountsOfAGroupAreAmongThem() {
        due(START, "join(3, 0, -1); join(4, 1, -1); nest(1, 0, -1); shareWithGroup(0, 0, 2); holders(0, 2) = 3");
    }

    void theyAreFewerOnTheDayOfAnEnd() {
        due(START, "join(3, 0, 5); shareWithGroup(0, 0, 2); pass(4); holders(0, 1) = 2; pass(1); holders(0, 1) = 1");
    }

    void whoHasTwoSharesIsOne() {
        due(START, "join(3, 0, -1); shareWithGroup(0, 0, 2); shareWith(0, 3, 1); holders(0, 1) = 2");
    }

    void theOwnerWithAShareIsOne() {
        due(START, "shareWith(0, 1, 2); holders(0, 1) = 1; holders(0, 2) = 1");
    }

    void theyAreMoreByWhatIsHandedDown() {
        due(START, "shareWith(0, 3, 1); holders(1, 1) = 2; setBroken(1, true); holders(1, 1) = 1");
    }

    void theOwnerAboveIsNotOneOfThem() {
        due(START, "holders(1, 3) = 1; holders(1, 1) = 1");
    }

    void aLeaverIsNotOneOfThem() {
        due(START, "shareWith(0, 3, 2); join(4, 0, -1); shareWithGroup(0, 0, 1); leave(3); leave(4); holders(0, 1) = 1");
    }

    void thereAreNoneOfAHeldFolderOfALeaver() {
        due(START, "hold(0); leave(1); holders(0, 1) = 0; holders(0, 2) = 0; holders(0, 3) = 0");
    }

    void thereIsNoOwnerOfAHeldFolderOfALeaverButOthers() {
        due(START, "shareWith(0, 3, 2); hold(0); leave(1); holders(0, 3) = 0; holders(0, 2) = 1; holders(0, 1) = 1");
    }

    void theyCanBeAll10Accounts() {
        due("9 * addAccount(); addGroup(); 12 * addFolder(0, -1); shareWithGroup(11, 0, 1)", """
            join(1, 0, -1); join(2, 0, -1); join(3, 0, -1); join(4, 0, -1); join(5, 0, -1)
            join(6, 0, -1); join(7, 0, -1); join(8, 0, -1); join(9, 0, -1)
            holders(11, 1) = 10; holders(11, 2) = 1
            """);
    }

    void throwsIllegalArgumentIfTheRightIs0() {
        due(START, "holders(0, 0) = throws.IllegalArgumentException");
    }

    void throwsIllegalArgumentIfTheRightIsMinus1() {
        due(START, "holders(0, -1) = throws.IllegalArgumentException");
    }

    void throwsIllegalArgumentIfTheRightIs4() {
        due(START, "holders(0, 4) = throws.IllegalArgumentException");
    }

    void throwsIllegalArgumentIfTheRightIsFarOff() {
        due(START, """
            holders(0, -2147483648) = throws.IllegalArgumentException
            holders(0, 2147483647) = throws.IllegalArgumentException
            """);
    }

    void throwsIndexOutOfBoundsIfTheFolderIsTooSmall() {
        due(START, "holders(-1, 1) = throws.IndexOutOfBoundsException");
    }

    void throwsIndexOutOfBoundsIfTheFolderIsTooLarge() {
        due(START, "holders(2, 1) = throws.IndexOutOfBoundsException");
    }

    void throwsIndexOutOfBoundsIfTheFolderIsFarOff() {
        due(START, """
            holders(32, 1) = throws.IndexOutOfBoundsException
            holders(-2147483648, 1) = throws.IndexOutOfBoundsException
            holders(2147483647, 1) = throws.IndexOutOfBoundsException
            """);
    }

    void throwsIndexOutOfBoundsIfThereAreNoFolders() {
        due("holders(0, 1) = throws.IndexOutOfBoundsException");
    }

    void throwsIndexOutOfBoundsForTheFolder12OfTwelve() {
        due("12 * addFolder(0, -1); holders(12, 1) = throws.IndexOutOfBoundsException");
    }

    void throwsIndexOutOfBoundsFirstIfTheRightIs0AndThereIsNoSuchFolder() {
        due(START, "holders(2, 0) = throws.IndexOutOfBoundsException");
    }

    void throwsIndexOutOfBoundsFirstIfTheRightIs4AndThereIsNoSuchFolder() {
        due(START, "holders(-1, 4) = throws.IndexOutOfBoundsException");
    }
}
