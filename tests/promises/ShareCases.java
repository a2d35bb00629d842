/**
 * What shareWith and shareWithGroup promise alike: CALL(0, 2, 1) shares the folder 0 with 2, to read. The accounts 1
 * to 3 are in the groups of their numbers alone, so that the right of the account tells of either.
 */
abstract class ShareCases extends CallCases {
    private static final String START = """
        3 * addAccount(); 4 * addGroup()
        join(1, 1, -1); join(2, 2, -1); join(3, 3, -1)
        addFolder(0, -1); addFolder(0, 0); addFolder(0, -1)
        """;

    ShareCases(String call) {
        super(call);
    }

    void the1IsToRead() {
        dueOfCall(START, "CALL(0, 2, 1) = 1; right(2, 0) = 1");
    }

    void the2IsToWrite() {
        dueOfCall(START, "CALL(0, 2, 2) = 1; right(2, 0) = 2");
    }

    void the0IsForNoShare() {
        dueOfCall(START, "CALL(0, 2, 1); CALL(0, 2, 0) = 0; right(2, 0) = 0");
    }

    void the0IsForNoShareWhereThereWasNone() {
        dueOfCall(START, "CALL(0, 2, 0) = 0; right(2, 0) = 0");
    }

    void the0LeavesTheOtherShares() {
        dueOfCall(START, "CALL(0, 1, 1); CALL(0, 2, 1); CALL(0, 3, 2); CALL(0, 2, 0) = 2; right(1, 0) = 1; right(3, 0) = 2");
    }

    void throwsIllegalArgumentIfTheRightIsMinus1() {
        dueOfCall(START, "CALL(0, 2, 2); CALL(0, 2, -1) = throws.IllegalArgumentException; right(2, 0) = 2");
    }

    void throwsIllegalArgumentIfTheRightIs3() {
        dueOfCall(START, "CALL(0, 2, 1); CALL(0, 2, 3) = throws.IllegalArgumentException; right(2, 0) = 1");
    }

    void throwsIllegalArgumentIfTheRightIsTooSmallByFar() {
        dueOfCall(START, "CALL(0, 2, -2147483648) = throws.IllegalArgumentException");
    }

    void throwsIllegalArgumentIfTheRightIsTooLargeByFar() {
        dueOfCall(START, "CALL(0, 2, 2147483647) = throws.IllegalArgumentException");
    }

    void aGreaterRightTakesThePlaceOfALesser() {
        dueOfCall(START, "CALL(0, 2, 1) = 1; CALL(0, 2, 2) = 1; right(2, 0) = 2");
    }

    void aLesserRightTakesThePlaceOfAGreater() {
        dueOfCall(START, "CALL(0, 2, 2) = 1; CALL(0, 2, 1) = 1; right(2, 0) = 1");
    }

    void theSameRightTakesItsOwnPlace() {
        dueOfCall(START, "CALL(0, 2, 2) = 1; CALL(0, 2, 2) = 1; right(2, 0) = 2");
    }

    void returnsTheNumberOfSharesForAccountsAndGroups() {
        dueOfCall(START, "shareWith(0, 1, 1); shareWithGroup(0, 1, 1); shareWithGroup(0, 3, 2); CALL(0, 2, 1) = 4");
    }

    void theSharesOfOtherFoldersAreNotCounted() {
        dueOfCall(START, "shareWith(2, 1, 1); shareWithGroup(2, 1, 1); CALL(0, 2, 1) = 1");
    }

    void theSharesThatWereHandedToItAreNotCounted() {
        dueOfCall(START, "shareWith(0, 1, 1); shareWithGroup(0, 1, 1); CALL(1, 2, 1) = 1");
    }

    void theSharesOfTheFoldersBelowAreNotCounted() {
        dueOfCall(START, "shareWith(1, 1, 1); shareWithGroup(1, 1, 1); CALL(0, 2, 1) = 1");
    }

    void aShareThatIsNoMoreIsNotCounted() {
        dueOfCall(START, "shareWith(0, 1, 1); shareWithGroup(0, 1, 1); shareWith(0, 1, 0); shareWithGroup(0, 1, 0); CALL(0, 2, 1) = 1");
    }

    void otherFoldersGetNoShare() {
        dueOfCall(START, "CALL(1, 2, 1); right(2, 0) = 0; right(2, 2) = 0");
    }

    void nobodyElseGetsARight() {
        dueOfCall(START, "CALL(0, 2, 1); right(1, 0) = 0; right(3, 0) = 0");
    }

    void aShareBelowOneThatIsHandedDownStandsBesideIt() {
        dueOfCall(START, "CALL(0, 2, 2); CALL(1, 2, 1) = 1; right(2, 1) = 2; CALL(0, 2, 0) = 0; right(2, 1) = 1");
    }

    void theSharesForTheSameLeaverAreCounted() {
        dueOfCall(START, "shareWith(0, 2, 1); shareWithGroup(0, 2, 1); leave(2); CALL(0, 1, 1) = 3");
    }

    void aBrokenFolderCanBeShared() {
        dueOfCall(START, "setBroken(0, true); CALL(0, 2, 1) = 1; right(2, 0) = 1");
    }

    void throwsIndexOutOfBoundsIfTheFolderIsTooSmall() {
        dueOfCall(START, "CALL(-1, 2, 1) = throws.IndexOutOfBoundsException");
    }

    void throwsIndexOutOfBoundsIfTheFolderIsTooLarge() {
        dueOfCall(START, "CALL(3, 2, 1) = throws.IndexOutOfBoundsException");
    }

    void throwsIndexOutOfBoundsIfTheFolderIsFarOff() {
        dueOfCall(START, """
            CALL(32, 2, 1) = throws.IndexOutOfBoundsException
            CALL(-2147483648, 2, 1) = throws.IndexOutOfBoundsException
            CALL(2147483647, 2, 1) = throws.IndexOutOfBoundsException
            """);
    }

    void throwsIndexOutOfBoundsIfThereAreNoFolders() {
        dueOfCall("addGroup(); CALL(0, 0, 1) = throws.IndexOutOfBoundsException");
    }

    void throwsIndexOutOfBoundsForTheFolder12OfTwelve() {
        dueOfCall("addGroup(); 12 * addFolder(0, -1); CALL(11, 0, 1) = 1; CALL(12, 0, 1) = throws.IndexOutOfBoundsException");
    }

    void throwsIndexOutOfBoundsIfWhomIsTooSmall() {
        dueOfCall(START, "CALL(0, -1, 1) = throws.IndexOutOfBoundsException");
    }

    void throwsIndexOutOfBoundsIfWhomIsTooLarge() {
        dueOfCall(START, "CALL(0, 4, 1) = throws.IndexOutOfBoundsException");
    }

    void throwsIndexOutOfBoundsIfWhomIsFarOff() {
        dueOfCall(START, """
            CALL(0, 32, 1) = throws.IndexOutOfBoundsException
            CALL(0, -2147483648, 1) = throws.IndexOutOfBoundsException
            CALL(0, 2147483647, 1) = throws.IndexOutOfBoundsException
            """);
    }

    void throwsIllegalStateIfTheFolderIsHeld() {
        dueOfCall(START, "hold(0); CALL(0, 2, 1) = throws.IllegalStateException; right(2, 0) = 0");
    }

    void throwsIllegalStateIfTheFolderIsHeldAndTheRightIsTheSame() {
        dueOfCall(START, "CALL(0, 2, 1); hold(0); CALL(0, 2, 1) = throws.IllegalStateException; right(2, 0) = 1");
    }

    void throwsIllegalStateIfTheFolderIsHeldAndTheRightIs0() {
        dueOfCall(START, "CALL(0, 2, 1); hold(0); CALL(0, 2, 0) = throws.IllegalStateException; right(2, 0) = 1");
    }

    void throwsIllegalStateIfTheFolderIsHeldAndThereIsNoShareToTake() {
        dueOfCall(START, "hold(0); CALL(0, 2, 0) = throws.IllegalStateException");
    }

    void throwsIllegalStateForTheLastOf12FoldersIfItIsHeld() {
        dueOfCall("addGroup(); 12 * addFolder(0, -1); hold(11); CALL(11, 0, 1) = throws.IllegalStateException; CALL(10, 0, 1) = 1");
    }

    void aFolderAboveAHeldOneCanBeShared() {
        dueOfCall(START, "hold(1); CALL(0, 2, 1) = 1; right(2, 1) = 1");
    }

    void aFolderBelowAHeldOneCanBeShared() {
        dueOfCall(START, "hold(0); CALL(1, 2, 1) = 1; right(2, 1) = 1");
    }

    void aReleasedFolderCanBeShared() {
        dueOfCall(START, "hold(0); release(0); CALL(0, 2, 1) = 1; right(2, 0) = 1");
    }

    void throwsIndexOutOfBoundsFirstIfTheFolderAndTheRightAreOutOfRange() {
        dueOfCall(START, "CALL(3, 2, 3) = throws.IndexOutOfBoundsException");
    }

    void throwsIndexOutOfBoundsFirstIfWhomAndTheRightAreOutOfRange() {
        dueOfCall(START, "CALL(0, 4, -1) = throws.IndexOutOfBoundsException");
    }

    void throwsIndexOutOfBoundsFirstIfWhomIsOutOfRangeAndTheFolderHeld() {
        dueOfCall(START, "hold(0); CALL(0, 4, 1) = throws.IndexOutOfBoundsException");
    }

    void throwsIllegalArgumentFirstIfTheRightIs3AndTheFolderHeld() {
        dueOfCall(START, "hold(0); CALL(0, 2, 3) = throws.IllegalArgumentException");
    }

    void throwsIllegalArgumentFirstIfTheRightIsMinus1AndTheFolderHeld() {
        dueOfCall(START, "hold(0); CALL(0, 2, -1) = throws.IllegalArgumentException");
    }

    void throwsIndexOutOfBoundsFirstIfAllIsWrong() {
        dueOfCall(START, "hold(0); CALL(0, 4, 3) = throws.IndexOutOfBoundsException");
    }
}
