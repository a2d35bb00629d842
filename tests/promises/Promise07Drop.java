/** "Ends a membership of an account at once." */
final class Promise07Drop extends Cases {
    private static final String START = "3 * addAccount(); 3 * addGroup()";

    void theAccountIsNotInTheGroupOnTheSameDay() {
        due(START, "join(1, 0, 5); drop(1, 0) = 0; isIn(1, 0) = false");
    }

    void aMembershipThatNeverEndsIsEnded() {
        due(START, "join(1, 0, -1); drop(1, 0) = 0; isIn(1, 0) = false; memberships() = 0");
    }

    void aDroppedMembershipDoesNotEndAgain() {
        due(START, "join(1, 0, 5); drop(1, 0); pass(5) = 0");
    }

    void returnsTheNumberOfMembershipsThatAreLeft() {
        due(START, "join(0, 0, -1); join(1, 0, 5); join(2, 0, -1); drop(1, 0) = 2; drop(2, 0) = 1; drop(0, 0) = 0");
    }

    void theGroupsInTheGroupAreNotCounted() {
        due(START, "join(1, 0, -1); join(2, 0, -1); nest(1, 0, -1); nest(2, 0, -1); drop(1, 0) = 1");
    }

    void theMembershipsInOtherGroupsAreNotCounted() {
        due(START, "join(1, 0, -1); join(2, 1, -1); join(3, 1, -1); drop(1, 0) = 0");
    }

    void aLeaverInTheGroupIsCounted() {
        due(START, "join(1, 0, -1); join(2, 0, -1); leave(2); drop(1, 0) = 1");
    }

    void theMembershipsOfTheAccountInOtherGroupsStay() {
        due(START, "join(1, 0, -1); join(1, 1, -1); join(1, 2, -1); drop(1, 1); isIn(1, 0) = true; isIn(1, 2) = true");
    }

    void theMembershipsOfOtherAccountsStay() {
        due(START, "join(0, 1, -1); join(1, 1, -1); join(2, 1, -1); drop(1, 1); isIn(0, 1) = true; isIn(2, 1) = true");
    }

    void theMembershipOfAGroupOfTheSameNumberStays() {
        due(START, "join(1, 0, -1); nest(1, 0, -1); join(2, 1, -1); drop(1, 0); isIn(2, 0) = true; memberships() = 2");
    }

    void anAccountThatIsInOverAnotherGroupTooStaysInIt() {
        due(START, "join(1, 0, -1); join(1, 1, -1); nest(1, 0, -1); drop(1, 0) = 0; isIn(1, 0) = true");
    }

    void theMembershipOfALeaverCanBeDropped() {
        due(START, "join(1, 0, -1); leave(1); drop(1, 0) = 0; isIn(1, 0) = false");
    }

    void theMembershipOfTheWardenCanBeDropped() {
        due(START, "join(0, 2, -1); drop(0, 2) = 0; isIn(0, 2) = false");
    }

    void theLastAccountInTheLastGroupCanBeDropped() {
        due("9 * addAccount(); 6 * addGroup(); join(9, 5, -1); drop(9, 5) = 0; memberships() = 0");
    }

    void anAccountCanJoinAgain() {
        due(START, "join(1, 0, 5); drop(1, 0); join(1, 0, 7) = 1; pass(5) = 0; pass(2) = 1");
    }

    void itCanBeDroppedOnTheDayBeforeItsEnd() {
        due(START, "join(1, 0, 5); pass(4); drop(1, 0) = 0; pass(1) = 0");
    }

    void throwsNoSuchElementIfTheGroupIsEmpty() {
        due(START, "drop(1, 0) = throws.NoSuchElementException");
    }

    void throwsNoSuchElementIfOnlyOthersAreMembers() {
        due(START, "join(0, 0, -1); join(2, 0, -1); drop(1, 0) = throws.NoSuchElementException");
    }

    void throwsNoSuchElementIfItIsAMemberOfOtherGroupsOnly() {
        due(START, "join(1, 0, -1); join(1, 2, -1); drop(1, 1) = throws.NoSuchElementException");
    }

    void throwsNoSuchElementIfItIsInTheGroupOverAnotherGroupOnly() {
        due(START, "join(1, 0, -1); nest(0, 1, -1); drop(1, 1) = throws.NoSuchElementException; isIn(1, 1) = true");
    }

    void throwsNoSuchElementIfOnlyTheGroupOfItsNumberIsAMember() {
        due(START, "nest(1, 0, -1); drop(1, 0) = throws.NoSuchElementException");
    }

    void throwsNoSuchElementIfItHasBeenDropped() {
        due(START, "join(1, 0, -1); drop(1, 0); drop(1, 0) = throws.NoSuchElementException");
    }

    void throwsNoSuchElementOnTheDayOnWhichItHasEnded() {
        due(START, "join(1, 0, 5); pass(5); drop(1, 0) = throws.NoSuchElementException");
    }

    void throwsNoSuchElementForALeaverThatIsNoMember() {
        due(START, "leave(1); drop(1, 0) = throws.NoSuchElementException");
    }

    void throwsIndexOutOfBoundsIfTheAccountIsTooSmall() {
        due(START, "drop(-1, 0) = throws.IndexOutOfBoundsException");
    }

    void throwsIndexOutOfBoundsIfTheAccountIsTooLarge() {
        due(START, "drop(4, 0) = throws.IndexOutOfBoundsException");
    }

    void throwsIndexOutOfBoundsIfTheAccountIsFarOff() {
        due(START, """
            join(1, 0, -1)
            drop(33, 0) = throws.IndexOutOfBoundsException
            drop(-2147483648, 0) = throws.IndexOutOfBoundsException
            drop(2147483647, 0) = throws.IndexOutOfBoundsException
            """);
    }

    void throwsIndexOutOfBoundsIfTheGroupIsTooSmall() {
        due(START, "drop(1, -1) = throws.IndexOutOfBoundsException");
    }

    void throwsIndexOutOfBoundsIfTheGroupIsTooLarge() {
        due(START, "drop(1, 3) = throws.IndexOutOfBoundsException");
    }

    void throwsIndexOutOfBoundsIfTheGroupIsFarOff() {
        due(START, """
            join(1, 0, -1)
            drop(1, 32) = throws.IndexOutOfBoundsException
            drop(1, -2147483648) = throws.IndexOutOfBoundsException
            drop(1, 2147483647) = throws.IndexOutOfBoundsException
            """);
    }

    void throwsIndexOutOfBoundsIfThereAreNoGroups() {
        due("drop(0, 0) = throws.IndexOutOfBoundsException");
    }

    void throwsIndexOutOfBoundsForTheAccount10AndTheGroup6() {
        due("9 * addAccount(); 6 * addGroup()", """
            drop(10, 0) = throws.IndexOutOfBoundsException
            drop(0, 6) = throws.IndexOutOfBoundsException
            """);
    }
}
