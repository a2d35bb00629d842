/** "Makes a group a member of another group, in place of a membership of it there." */
final class Promise06Nest extends EndCases {
    private static final String START = "2 * addAccount(); 6 * addGroup()";
    private static final String CHAIN_OF_ALL = START
        + "; nest(0, 1, -1); nest(1, 2, 9); nest(2, 3, -1); nest(3, 4, 9); nest(4, 5, -1)";

    Promise06Nest() {
        super("nest");
    }

    void theAccountsOfTheGroupAreInTheOther() {
        due(START, "join(1, 4, -1); nest(4, 2, 5) = 1; isIn(1, 2) = true");
    }

    void theAccountsOfTheOtherAreNotInTheGroup() {
        due(START, "join(1, 2, -1); nest(4, 2, 5) = 1; isIn(1, 4) = false");
    }

    void allOtherGroupsCanBeInAGroup() {
        due(START, """
            nest(0, 5, -1) = 1; nest(1, 5, -1) = 2; nest(2, 5, -1) = 3; nest(3, 5, -1) = 4; nest(4, 5, -1) = 5
            """);
    }

    void aGroupCanBeInAllOtherGroups() {
        due(START, """
            nest(5, 0, -1) = 1; nest(5, 1, -1) = 1; nest(5, 2, -1) = 1; nest(5, 3, -1) = 1; nest(5, 4, -1) = 1
            memberships() = 5
            """);
    }

    void theAccountsInTheOtherGroupAreNotCounted() {
        due(START, "join(1, 0, -1); join(2, 0, -1); nest(1, 0, -1) = 1");
    }

    void theGroupsInTheGroupsInItAreNotCounted() {
        due(START, "nest(2, 1, -1); nest(3, 1, -1); nest(1, 0, -1) = 1");
    }

    void throwsUnsupportedOperationIfAGroupWouldBeInItself() {
        due(START, "nest(0, 0, -1) = throws.UnsupportedOperationException");
    }

    void throwsUnsupportedOperationIfTheLastGroupWouldBeInItself() {
        due(START, "nest(5, 5, 1) = throws.UnsupportedOperationException");
    }

    void throwsUnsupportedOperationOnTheWayBackOfOneMembership() {
        due(START, "nest(1, 4, -1); nest(4, 1, -1) = throws.UnsupportedOperationException");
    }

    void throwsUnsupportedOperationOnTheWayBackOfTwoMemberships() {
        due(START, "nest(4, 1, -1); nest(1, 3, -1); nest(3, 4, -1) = throws.UnsupportedOperationException");
    }

    void throwsUnsupportedOperationOnTheWayBackOverAllGroups() {
        due(CHAIN_OF_ALL, "nest(5, 0, -1) = throws.UnsupportedOperationException");
    }

    void throwsUnsupportedOperationOnTheWayBackOverAllGroupsByFallingNumbers() {
        due(START, "nest(5, 4, -1); nest(4, 3, 9); nest(3, 2, -1); nest(2, 1, 9); nest(1, 0, -1)",
            "nest(0, 5, 9) = throws.UnsupportedOperationException");
    }

    void throwsUnsupportedOperationOnTheWayBackFromWithinAChain() {
        due(CHAIN_OF_ALL, "nest(3, 1, -1) = throws.UnsupportedOperationException");
    }

    void throwsUnsupportedOperationOnTheWayBackThatEndsTomorrow() {
        due(START, "nest(0, 1, 5); pass(4); nest(1, 0, -1) = throws.UnsupportedOperationException");
    }

    void throwsUnsupportedOperationEvenIfItWouldEndTomorrow() {
        due(START, "nest(0, 1, -1); nest(1, 0, 1) = throws.UnsupportedOperationException");
    }

    void throwsUnsupportedOperationEvenWhereTheMembershipsWouldNotMeet() {
        due(START, "nest(0, 1, 2); nest(1, 2, 9); nest(2, 0, 1) = throws.UnsupportedOperationException");
    }

    void throwsUnsupportedOperationIfOneOfTwoWaysBackHasEnded() {
        due(START, "nest(0, 1, -1); nest(0, 2, 3); nest(2, 1, -1); pass(3)",
            "nest(1, 0, -1) = throws.UnsupportedOperationException");
    }

    void theWayBackIsFreeOnTheDayOnWhichItHasEnded() {
        due(START, "nest(0, 1, 5); pass(5) = 1; nest(1, 0, -1) = 1");
    }

    void theWayBackOverAllGroupsIsFreeIfOneMembershipOnItHasEnded() {
        due(CHAIN_OF_ALL, "pass(9) = 2; nest(5, 0, -1) = 1");
    }

    void aMembershipInPlaceOfItselfIsNoWayBack() {
        due(CHAIN_OF_ALL, "nest(2, 3, 7) = 1; pass(7) = 1");
    }

    void twoWaysToAGroupAreNoWayBack() {
        due(START, "nest(0, 1, -1); nest(0, 2, -1); nest(1, 3, -1) = 1; nest(2, 3, -1) = 2");
    }

    void aShorterWayIsNoWayBack() {
        due(CHAIN_OF_ALL, "nest(0, 5, -1) = 2; nest(1, 4, -1) = 2");
    }

    void accountsAreNoWayBack() {
        due(START, "join(1, 0, -1); join(1, 1, -1); nest(0, 1, -1) = 1");
    }

    void aRefusedWayBackLeavesTheEndAsItIs() {
        due(START, "nest(0, 1, 5); nest(1, 0, 3) = throws.UnsupportedOperationException; pass(3) = 0; pass(2) = 1");
    }

    void throwsIllegalArgumentFirstIfAGroupWouldBeInItselfUpToThePresentDay() {
        due(START, "nest(1, 1, 0) = throws.IllegalArgumentException");
    }

    void throwsIllegalArgumentFirstOnAWayBackUpTo1000() {
        due(START, "nest(0, 1, -1); nest(1, 0, 1000) = throws.IllegalArgumentException");
    }

    void throwsIndexOutOfBoundsFirstIfNoSuchGroupWouldBeInItself() {
        due(START, "nest(6, 6, -1) = throws.IndexOutOfBoundsException");
    }

    void throwsIndexOutOfBoundsFirstIfAllIsWrong() {
        due(START, "nest(-1, -1, 0) = throws.IndexOutOfBoundsException");
    }

    void throwsIndexOutOfBoundsForTheInnerGroup6OfSix() {
        due(START, "nest(6, 0, -1) = throws.IndexOutOfBoundsException");
    }
}
