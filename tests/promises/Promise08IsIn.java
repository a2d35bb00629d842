/** "Returns whether an account is in a group, found for all groups at once. Returns whether it is, also if it has left." */
final class Promise08IsIn extends Cases {
    private static final String START = "3 * addAccount(); 6 * addGroup()";

    void nobodyIsInAnEmptyGroup() {
        due(START, "isIn(0, 0) = false; isIn(3, 5) = false");
    }

    void aMemberIsInItsGroup() {
        due(START, "join(1, 3, 5); isIn(1, 3) = true");
    }

    void aMemberIsInNoOtherGroup() {
        due(START, "join(1, 3, 5); isIn(1, 2) = false; isIn(1, 4) = false");
    }

    void nobodyElseIsInTheGroup() {
        due(START, "join(1, 3, 5); isIn(0, 3) = false; isIn(2, 3) = false");
    }

    void theWardenIsInNoGroupByItself() {
        due(START, "join(1, 0, -1); isIn(0, 0) = false");
    }

    void theWardenCanBeIn() {
        due(START, "join(0, 0, -1); isIn(0, 0) = true");
    }

    void theLastOf10AccountsCanBeInTheLastOf6Groups() {
        due("9 * addAccount(); 6 * addGroup(); join(9, 5, -1); isIn(9, 5) = true; isIn(8, 5) = false; isIn(9, 4) = false");
    }

    void aMemberIsInTheGroupAroundItsGroup() {
        due(START, "join(1, 3, -1); nest(3, 2, -1); isIn(1, 2) = true");
    }

    void aMemberIsNotInTheGroupsWithinItsGroup() {
        due(START, "join(1, 2, -1); nest(3, 2, -1); isIn(1, 3) = false");
    }

    void aMemberIsNotInTheGroupsBesideItsGroup() {
        due(START, "join(1, 1, -1); nest(1, 0, -1); nest(2, 0, -1); isIn(1, 2) = false");
    }

    void aGroupInAnotherAloneLeadsNobodyIn() {
        due(START, "nest(1, 0, -1); isIn(0, 0) = false; isIn(1, 0) = false");
    }

    void overAllGroupsByRisingNumbers() {
        due(START, "nest(0, 1, -1); nest(1, 2, -1); nest(2, 3, -1); nest(3, 4, -1); nest(4, 5, -1); join(2, 0, -1)",
            "isIn(2, 1) = true; isIn(2, 2) = true; isIn(2, 3) = true; isIn(2, 4) = true; isIn(2, 5) = true");
    }

    void overAllGroupsByFallingNumbers() {
        due(START, "nest(5, 4, -1); nest(4, 3, -1); nest(3, 2, -1); nest(2, 1, -1); nest(1, 0, -1); join(2, 5, -1)",
            "isIn(2, 4) = true; isIn(2, 3) = true; isIn(2, 2) = true; isIn(2, 1) = true; isIn(2, 0) = true");
    }

    void overAllGroupsWithoutAnOrder() {
        due(START, "nest(5, 3, -1); nest(3, 4, -1); nest(4, 1, -1); nest(1, 2, -1); nest(2, 0, -1); join(2, 5, -1)",
            "isIn(2, 3) = true; isIn(2, 4) = true; isIn(2, 1) = true; isIn(2, 2) = true; isIn(2, 0) = true");
    }

    void onlyFromItsOwnPlaceOnAChainOn() {
        due(START, "nest(0, 1, -1); nest(1, 2, -1); nest(2, 3, -1); join(2, 2, -1)",
            "isIn(2, 0) = false; isIn(2, 1) = false; isIn(2, 2) = true; isIn(2, 3) = true");
    }

    void aGroupThatIsNestedAfterTheAccountJoinedLeadsItIn() {
        due(START, "join(1, 0, -1); isIn(1, 1) = false; nest(0, 1, -1); isIn(1, 1) = true");
    }

    void aLeaverIsIn() {
        due(START, "join(1, 0, -1); leave(1); isIn(1, 0) = true");
    }

    void aLeaverIsInOverGroups() {
        due(START, "join(1, 0, -1); nest(0, 1, -1); leave(1); nest(1, 2, -1); isIn(1, 2) = true");
    }

    void aLeaverThatIsNoMemberIsNotIn() {
        due(START, "leave(1); isIn(1, 0) = false");
    }

    void aLeaverIsInUpToTheEnd() {
        due(START, "join(1, 0, 5); leave(1); pass(4); isIn(1, 0) = true; pass(1); isIn(1, 0) = false");
    }

    void itIsInOnTheDayBeforeTheEnd() {
        due(START, "join(1, 0, 5); pass(4); isIn(1, 0) = true");
    }

    void itIsNotInOnTheDayOfTheEnd() {
        due(START, "join(1, 0, 5); pass(5); isIn(1, 0) = false");
    }

    void itIsNotInAfterTheEnd() {
        due(START, "join(1, 0, 5); pass(6); isIn(1, 0) = false");
    }

    void itIsInOverAGroupOnTheDayBeforeTheEndOfThat() {
        due(START, "join(1, 0, -1); nest(0, 1, 5); pass(4); isIn(1, 1) = true");
    }

    void itIsNotInOverAGroupOnTheDayOfTheEndOfThat() {
        due(START, "join(1, 0, -1); nest(0, 1, 5); pass(5); isIn(1, 1) = false; isIn(1, 0) = true");
    }

    void itIsNotInBeyondAGroupInWhichItsMembershipHasEnded() {
        due(START, "join(1, 0, 5); nest(0, 1, -1); pass(5); isIn(1, 1) = false");
    }

    void itIsInIfOneOfTwoWaysHasEnded() {
        due(START, "join(1, 0, -1); nest(0, 1, 5); nest(0, 2, -1); nest(1, 3, -1); nest(2, 3, -1)",
            "pass(5); isIn(1, 3) = true");
    }

    void itIsNotInIfBothOfTwoWaysHaveEnded() {
        due(START, "join(1, 0, -1); nest(0, 1, 5); nest(0, 2, -1); nest(1, 3, -1); nest(2, 3, 4)",
            "pass(5); isIn(1, 3) = false");
    }

    void itIsStillInIfItNeverEnds() {
        due(START, "join(1, 0, -1); nest(0, 1, -1); 10 * pass(99); pass(9); isIn(1, 0) = true; isIn(1, 1) = true");
    }

    void throwsIndexOutOfBoundsIfTheAccountIsTooSmall() {
        due(START, "isIn(-1, 0) = throws.IndexOutOfBoundsException");
    }

    void throwsIndexOutOfBoundsIfTheAccountIsTooLarge() {
        due(START, "isIn(4, 0) = throws.IndexOutOfBoundsException");
    }

    void throwsIndexOutOfBoundsIfTheAccountIsFarOff() {
        due(START, """
            isIn(32, 0) = throws.IndexOutOfBoundsException
            isIn(-2147483648, 0) = throws.IndexOutOfBoundsException
            isIn(2147483647, 0) = throws.IndexOutOfBoundsException
            """);
    }

    void throwsIndexOutOfBoundsIfTheGroupIsTooSmall() {
        due(START, "isIn(1, -1) = throws.IndexOutOfBoundsException");
    }

    void throwsIndexOutOfBoundsIfTheGroupIsTooLarge() {
        due("addAccount(); 3 * addGroup(); isIn(1, 3) = throws.IndexOutOfBoundsException");
    }

    void throwsIndexOutOfBoundsIfTheGroupIsFarOff() {
        due(START, """
            join(1, 0, -1)
            isIn(1, 32) = throws.IndexOutOfBoundsException
            isIn(1, -2147483648) = throws.IndexOutOfBoundsException
            isIn(1, 2147483647) = throws.IndexOutOfBoundsException
            """);
    }

    void throwsIndexOutOfBoundsIfThereAreNoGroups() {
        due("isIn(0, 0) = throws.IndexOutOfBoundsException");
    }

    void throwsIndexOutOfBoundsForTheAccount10AndTheGroup6() {
        due("9 * addAccount(); 6 * addGroup()", """
            isIn(10, 0) = throws.IndexOutOfBoundsException
            isIn(0, 6) = throws.IndexOutOfBoundsException
            """);
    }
}
