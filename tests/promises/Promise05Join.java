/** "Makes an account a member of a group, in place of a membership of it there." */
final class Promise05Join extends EndCases {
    private static final String START = "3 * addAccount(); 3 * addGroup()";

    Promise05Join() {
        super("join");
    }

    void theAccountIsInTheGroup() {
        due(START, "join(1, 2, 5) = 1; isIn(1, 2) = true");
    }

    void theWardenCanJoin() {
        due(START, "join(0, 0, -1) = 1; isIn(0, 0) = true");
    }

    void anAccountCanJoinAllGroups() {
        due("6 * addGroup()", """
            join(0, 0, -1) = 1; join(0, 1, -1) = 1; join(0, 2, -1) = 1
            join(0, 3, -1) = 1; join(0, 4, -1) = 1; join(0, 5, -1) = 1
            memberships() = 6
            """);
    }

    void all10AccountsCanJoinAGroup() {
        due("9 * addAccount(); 6 * addGroup()", """
            join(0, 5, -1) = 1; join(1, 5, -1) = 2; join(2, 5, -1) = 3; join(3, 5, -1) = 4; join(4, 5, -1) = 5
            join(5, 5, -1) = 6; join(6, 5, -1) = 7; join(7, 5, -1) = 8; join(8, 5, -1) = 9; join(9, 5, -1) = 10
            """);
    }

    void theGroupsInTheGroupAreNotCounted() {
        due(START, "nest(1, 0, -1); nest(2, 0, -1); join(1, 0, -1) = 1");
    }

    void theAccountsInTheGroupsInItAreNotCounted() {
        due(START, "nest(1, 0, -1); join(2, 1, -1); join(1, 0, -1) = 1");
    }

    void aLeaverInTheGroupIsCounted() {
        due(START, "join(1, 0, -1); leave(1); join(2, 0, -1) = 2");
    }

    void anAccountThatIsInOverAnotherGroupCanJoinToo() {
        due(START, "nest(1, 0, -1); join(1, 1, -1); join(1, 0, -1) = 1; memberships() = 3");
    }

    void throwsUnsupportedOperationIfTheAccountHasLeft() {
        due(START, "leave(3); join(3, 0, 5) = throws.UnsupportedOperationException");
    }

    void throwsUnsupportedOperationIfTheAccountHasLeftAndTheEndIsNever() {
        due(START, "leave(3); join(3, 0, -1) = throws.UnsupportedOperationException");
    }

    void throwsUnsupportedOperationIfALeaverIsAMemberThere() {
        due(START, "join(3, 0, 5); leave(3); join(3, 0, 6) = throws.UnsupportedOperationException; pass(5) = 1");
    }

    void throwsIndexOutOfBoundsFirstIfALeaverJoinsNoSuchGroup() {
        due(START, "leave(3); join(3, 3, 5) = throws.IndexOutOfBoundsException");
    }

    void throwsIllegalArgumentFirstIfALeaverJoinsUpToThePresentDay() {
        due(START, "leave(3); join(3, 0, 0) = throws.IllegalArgumentException");
    }

    void throwsIllegalArgumentFirstIfALeaverJoinsUpTo1000() {
        due(START, "leave(3); join(3, 0, 1000) = throws.IllegalArgumentException");
    }

    void throwsIndexOutOfBoundsFirstIfAllIsWrong() {
        due(START, "leave(3); join(3, 3, 0) = throws.IndexOutOfBoundsException");
    }

    void throwsIndexOutOfBoundsForTheAccount10OfTen() {
        due("9 * addAccount(); addGroup(); join(10, 0, -1) = throws.IndexOutOfBoundsException");
    }
}
