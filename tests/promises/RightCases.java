/** What right and rightByWalking promise alike: CALL(2, 0) is the right of the account 2 to the folder 0. */
abstract class RightCases extends CallCases {
    private static final String START = """
        4 * addAccount(); 6 * addGroup()
        addFolder(1, -1); addFolder(1, 0); addFolder(1, 1); addFolder(1, 0)
        """;
    private static final String CHAIN_OF_12 = """
        2 * addAccount(); addFolder(0, -1); addFolder(0, 0); addFolder(0, 1); addFolder(0, 2); addFolder(0, 3)
        addFolder(0, 4); addFolder(0, 5); addFolder(0, 6); addFolder(0, 7); addFolder(0, 8); addFolder(0, 9)
        addFolder(0, 10)
        """;

    RightCases(String call) {
        super(call);
    }

    void itIs0WithoutAny() {
        dueOfCall(START, "CALL(2, 0) = 0; CALL(2, 2) = 0");
    }

    void itIs0OfTheWardenWithoutAny() {
        dueOfCall(START, "CALL(0, 0) = 0");
    }

    void itIs3OfTheOwner() {
        dueOfCall(START, "CALL(1, 0) = 3");
    }

    void itIs3OfTheWardenAsTheOwner() {
        dueOfCall("addFolder(0, -1); CALL(0, 0) = 3");
    }

    void itIs3OfTheOwnerWithAShareToRead() {
        dueOfCall(START, "shareWith(0, 1, 1); CALL(1, 0) = 3");
    }

    void itIs3OfTheOwnerOfABrokenFolder() {
        dueOfCall(START, "setBroken(1, true); CALL(1, 1) = 3");
    }

    void itIs3OfTheOwnerOfAHeldFolder() {
        dueOfCall(START, "hold(0); CALL(1, 0) = 3");
    }

    void itIs3OfTheKeeperAfterTheOwnerLeft() {
        dueOfCall(START, "setHeir(1, 2); leave(1); CALL(2, 0) = 3");
    }

    void itIs3OfTheLastOf10AccountsAsTheOwner() {
        dueOfCall("9 * addAccount(); 12 * addFolder(9, -1); CALL(9, 11) = 3; CALL(8, 11) = 0");
    }

    void itIs1OfAShareToRead() {
        dueOfCall(START, "shareWith(0, 2, 1); CALL(2, 0) = 1");
    }

    void itIs2OfAShareToWrite() {
        dueOfCall(START, "shareWith(0, 2, 2); CALL(2, 0) = 2");
    }

    void itIs1OfAShareOfAGroupToRead() {
        dueOfCall(START, "shareWithGroup(0, 3, 1); join(2, 3, -1); CALL(2, 0) = 1");
    }

    void itIs2OfAShareOfAGroupToWrite() {
        dueOfCall(START, "shareWithGroup(0, 3, 2); join(2, 3, -1); CALL(2, 0) = 2");
    }

    void itIs0IfOnlyAnotherAccountHasAShare() {
        dueOfCall(START, "shareWith(0, 3, 2); CALL(2, 0) = 0; CALL(4, 0) = 0");
    }

    void itIs0IfOnlyAGroupOfOthersHasAShare() {
        dueOfCall(START, "shareWithGroup(0, 3, 2); join(3, 3, -1); join(2, 2, -1); join(2, 4, -1); CALL(2, 0) = 0");
    }

    void itIs0IfOnlyTheGroupOfItsNumberHasAShare() {
        dueOfCall(START, "shareWithGroup(0, 2, 2); CALL(2, 0) = 0");
    }

    void itIs0IfOnlyTheAccountOfItsGroupsNumberHasAShare() {
        dueOfCall(START, "shareWith(0, 3, 2); join(2, 3, -1); CALL(2, 0) = 0");
    }

    void itIsTheGreatestIfItsOwnShareIs() {
        dueOfCall(START, "shareWith(0, 2, 2); shareWithGroup(0, 0, 1); join(2, 0, -1); CALL(2, 0) = 2");
    }

    void itIsTheGreatestIfItsGroupsShareIs() {
        dueOfCall(START, "shareWith(0, 2, 1); shareWithGroup(0, 0, 2); join(2, 0, -1); CALL(2, 0) = 2");
    }

    void itIsTheGreatestOfTwoGroups() {
        dueOfCall(START, "shareWithGroup(0, 0, 1); shareWithGroup(0, 1, 2); join(2, 0, -1); join(2, 1, -1); CALL(2, 0) = 2");
    }

    void itIsTheGreatestOfTwoGroupsTheOtherWayRound() {
        dueOfCall(START, "shareWithGroup(0, 0, 2); shareWithGroup(0, 1, 1); join(2, 0, -1); join(2, 1, -1); CALL(2, 0) = 2");
    }

    void twoSharesToReadAreNoneToWrite() {
        dueOfCall(START, "shareWith(0, 2, 1); shareWithGroup(0, 0, 1); join(2, 0, -1); CALL(2, 0) = 1");
    }

    void itIsThatOfAGroupAroundItsGroup() {
        dueOfCall(START, "shareWithGroup(0, 4, 2); join(2, 3, -1); nest(3, 4, -1); CALL(2, 0) = 2");
    }

    void itIsNotThatOfAGroupWithinItsGroup() {
        dueOfCall(START, "shareWithGroup(0, 3, 2); join(2, 4, -1); nest(3, 4, -1); CALL(2, 0) = 0");
    }

    void itIsThatOfAGroupOverAllGroupsByRisingNumbers() {
        dueOfCall(START, "nest(0, 1, -1); nest(1, 2, -1); nest(2, 3, -1); nest(3, 4, -1); nest(4, 5, -1)",
            "join(2, 0, -1); shareWithGroup(0, 5, 1); CALL(2, 0) = 1");
    }

    void itIsThatOfAGroupOverAllGroupsByFallingNumbers() {
        dueOfCall(START, "nest(5, 4, -1); nest(4, 3, -1); nest(3, 2, -1); nest(2, 1, -1); nest(1, 0, -1)",
            "join(2, 5, -1); shareWithGroup(0, 0, 1); CALL(2, 0) = 1");
    }

    void itIsTheGreatestOnAChainOfGroups() {
        dueOfCall(START, "nest(0, 1, -1); nest(1, 2, -1); join(2, 0, -1)",
            "shareWithGroup(0, 0, 1); shareWithGroup(0, 1, 2); shareWithGroup(0, 2, 1); CALL(2, 0) = 2");
    }

    void itIsThatOfAGroupOnTheDayBeforeTheEnd() {
        dueOfCall(START, "shareWithGroup(0, 0, 1); join(2, 0, 5); pass(4); CALL(2, 0) = 1");
    }

    void itIs0OnTheDayOfTheEnd() {
        dueOfCall(START, "shareWithGroup(0, 0, 1); join(2, 0, 5); pass(5); CALL(2, 0) = 0");
    }

    void itIsThatOfAGroupOverAGroupOnTheDayBeforeTheEndOfThat() {
        dueOfCall(START, "shareWithGroup(0, 1, 1); join(2, 0, -1); nest(0, 1, 5); pass(4); CALL(2, 0) = 1");
    }

    void itIs0OverAGroupOnTheDayOfTheEndOfThat() {
        dueOfCall(START, "shareWithGroup(0, 1, 1); join(2, 0, -1); nest(0, 1, 5); pass(5); CALL(2, 0) = 0");
    }

    void itIsTheLesserOneIfTheWayToTheGreaterHasEnded() {
        dueOfCall(START, "shareWithGroup(0, 0, 1); shareWithGroup(0, 1, 2); join(2, 0, -1); join(2, 1, 5)",
            "pass(4); CALL(2, 0) = 2; pass(1); CALL(2, 0) = 1");
    }

    void aShareIsHandedDownToTheFolderBelow() {
        dueOfCall(START, "shareWith(0, 2, 2); CALL(2, 1) = 2; CALL(2, 3) = 2");
    }

    void aShareThatWasHandedDownIsHandedFurtherDown() {
        dueOfCall(START, "shareWith(0, 2, 2); CALL(2, 2) = 2");
    }

    void aShareOfAGroupIsHandedDown() {
        dueOfCall(START, "shareWithGroup(0, 4, 1); join(2, 4, -1); CALL(2, 1) = 1; CALL(2, 2) = 1");
    }

    void aShareIsHandedDownOverAll12Folders() {
        dueOfCall(CHAIN_OF_12, "shareWith(0, 2, 1); CALL(2, 11) = 1; CALL(1, 11) = 0");
    }

    void aShareIsNotHandedUp() {
        dueOfCall(START, "shareWith(1, 2, 2); CALL(2, 0) = 0");
    }

    void aShareIsNotHandedAside() {
        dueOfCall(START, "shareWith(1, 2, 2); CALL(2, 3) = 0");
    }

    void aShareIsNotHandedToAFolderWithoutAParent() {
        dueOfCall(START, "addFolder(1, -1); shareWith(0, 2, 2); CALL(2, 4) = 0");
    }

    void theOwnersRightIsNotHandedDown() {
        dueOfCall(START, "addFolder(2, 0); CALL(1, 4) = 0");
    }

    void theOwnersRightIsNotHandedUp() {
        dueOfCall(START, "addFolder(2, 0); CALL(2, 0) = 0");
    }

    void itIsTheGreatestIfTheOwnOneIs() {
        dueOfCall(START, "shareWith(0, 2, 1); shareWith(1, 2, 2); CALL(2, 1) = 2; CALL(2, 0) = 1");
    }

    void itIsTheGreatestIfTheHandedOneIs() {
        dueOfCall(START, "shareWith(0, 2, 2); shareWith(1, 2, 1); CALL(2, 1) = 2; CALL(2, 2) = 2");
    }

    void itIsTheGreatestOfAHandedOneOfAGroupAndTheOwnOne() {
        dueOfCall(START, "shareWithGroup(0, 0, 2); join(2, 0, -1); shareWith(2, 2, 1); CALL(2, 2) = 2");
    }

    void itIs0InABrokenFolder() {
        dueOfCall(START, "shareWith(0, 2, 2); setBroken(1, true); CALL(2, 1) = 0");
    }

    void itIs0BelowABrokenFolder() {
        dueOfCall(START, "shareWith(0, 2, 2); setBroken(1, true); CALL(2, 2) = 0");
    }

    void itIsTheOwnOneInABrokenFolder() {
        dueOfCall(START, "shareWith(0, 2, 2); shareWith(1, 2, 1); setBroken(1, true); CALL(2, 1) = 1; CALL(2, 2) = 1");
    }

    void itIsHandedDownBesideABrokenFolder() {
        dueOfCall(START, "shareWith(0, 2, 2); setBroken(1, true); CALL(2, 3) = 2");
    }

    void itIsHandedDownFromABrokenFolder() {
        dueOfCall(START, "shareWith(0, 2, 2); setBroken(0, true); CALL(2, 0) = 2; CALL(2, 1) = 2");
    }

    void itIs0InABrokenFolderAtTheEndOf12() {
        dueOfCall(CHAIN_OF_12, "shareWith(10, 2, 1); setBroken(11, true); CALL(2, 11) = 0; CALL(2, 10) = 1");
    }

    void itIsHandedDownThroughAHeldFolder() {
        dueOfCall(START, "hold(1); shareWith(0, 2, 1); CALL(2, 1) = 1; CALL(2, 2) = 1");
    }

    void itIs0AfterTheShareIsTaken() {
        dueOfCall(START, "shareWith(0, 2, 1); shareWith(0, 2, 0); CALL(2, 0) = 0; CALL(2, 2) = 0");
    }

    void itIs0OfALeaverWithAShare() {
        dueOfCall(START, "shareWith(0, 2, 2); leave(2); CALL(2, 0) = 0; CALL(2, 1) = 0");
    }

    void itIs0OfALeaverInAGroupWithAShare() {
        dueOfCall(START, "shareWithGroup(0, 0, 2); join(2, 0, -1); leave(2); CALL(2, 0) = 0");
    }

    void itIs0OfALeaverThatOwnedTheFolder() {
        dueOfCall(START, "leave(1); CALL(1, 0) = 0");
    }

    void itIs0OfALeaverThatOwnsAHeldFolder() {
        dueOfCall(START, "hold(0); leave(1); owner(0) = 1; CALL(1, 0) = 0");
    }

    void itIsThatOfAShareOfAHeldFolderWhoseOwnerHasLeft() {
        dueOfCall(START, "shareWith(0, 2, 2); hold(0); leave(1); CALL(2, 0) = 2; CALL(0, 0) = 0");
    }

    void throwsIndexOutOfBoundsIfTheAccountIsTooSmall() {
        dueOfCall(START, "CALL(-1, 0) = throws.IndexOutOfBoundsException");
    }

    void throwsIndexOutOfBoundsIfTheAccountIsTooLarge() {
        dueOfCall(START, "CALL(5, 0) = throws.IndexOutOfBoundsException");
    }

    void throwsIndexOutOfBoundsIfTheAccountIsFarOff() {
        dueOfCall(START, """
            CALL(33, 0) = throws.IndexOutOfBoundsException
            CALL(-2147483648, 0) = throws.IndexOutOfBoundsException
            CALL(2147483647, 0) = throws.IndexOutOfBoundsException
            """);
    }

    void throwsIndexOutOfBoundsIfTheFolderIsTooSmall() {
        dueOfCall(START, "CALL(1, -1) = throws.IndexOutOfBoundsException");
    }

    void throwsIndexOutOfBoundsIfTheFolderIsTooLarge() {
        dueOfCall(START, "CALL(1, 4) = throws.IndexOutOfBoundsException");
    }

    void throwsIndexOutOfBoundsIfTheFolderIsFarOff() {
        dueOfCall(START, """
            CALL(1, 32) = throws.IndexOutOfBoundsException
            CALL(1, -2147483648) = throws.IndexOutOfBoundsException
            CALL(1, 2147483647) = throws.IndexOutOfBoundsException
            """);
    }

    void throwsIndexOutOfBoundsIfThereAreNoFolders() {
        dueOfCall("CALL(0, 0) = throws.IndexOutOfBoundsException");
    }

    void throwsIndexOutOfBoundsForTheAccount10AndTheFolder12() {
        dueOfCall("9 * addAccount(); 12 * addFolder(0, -1)", """
            CALL(10, 0) = throws.IndexOutOfBoundsException
            CALL(0, 12) = throws.IndexOutOfBoundsException
            """);
    }

    void throwsIndexOutOfBoundsIfALeaverNamesNoSuchFolder() {
        dueOfCall(START, "leave(2); CALL(2, 4) = throws.IndexOutOfBoundsException");
    }
}
