/** What join and nest promise alike: CALL(1, 0, 5) makes 1 a member of the group 0, up to the day 5. */
abstract class EndCases extends CallCases {
    private static final String START = "2 * addAccount(); 3 * addGroup()";

    EndCases(String call) {
        super(call);
    }

    void theDayAfterThePresentOneIsTheLeastEnd() {
        dueOfCall(START, "pass(7); CALL(1, 0, 8) = 1; memberships() = 1; pass(1) = 1");
    }

    void throwsIllegalArgumentIfTheEndIsThePresentDay() {
        dueOfCall(START, "pass(7); CALL(1, 0, 7) = throws.IllegalArgumentException");
    }

    void throwsIllegalArgumentIfTheEndIsThePresentDay0() {
        dueOfCall(START, "CALL(1, 0, 0) = throws.IllegalArgumentException");
    }

    void throwsIllegalArgumentIfTheEndIsBeforeThePresentDay() {
        dueOfCall(START, "pass(7); CALL(1, 0, 6) = throws.IllegalArgumentException");
    }

    void throwsIllegalArgumentIfTheEndIsTheDay0AndItHasPassed() {
        dueOfCall(START, "pass(7); CALL(1, 0, 0) = throws.IllegalArgumentException");
    }

    void theDay1IsTheLeastEndOfAll() {
        dueOfCall(START, "CALL(1, 0, 1) = 1; pass(1) = 1");
    }

    void theDay999IsTheGreatestEnd() {
        dueOfCall(START, "CALL(1, 0, 999) = 1; 10 * pass(99); pass(8) = 0; pass(1) = 1");
    }

    void throwsIllegalArgumentIfTheEndIs1000() {
        dueOfCall(START, "CALL(1, 0, 1000) = throws.IllegalArgumentException");
    }

    void throwsIllegalArgumentIfTheEndIsTooLargeByFar() {
        dueOfCall(START, "CALL(1, 0, 2147483647) = throws.IllegalArgumentException");
    }

    void minus1IsNever() {
        dueOfCall(START, "CALL(1, 0, -1) = 1; 10 * pass(99); pass(9) = 0; memberships() = 1");
    }

    void throwsIllegalArgumentIfTheEndIsMinus2() {
        dueOfCall(START, "CALL(1, 0, -2) = throws.IllegalArgumentException");
    }

    void throwsIllegalArgumentIfTheEndIsTooSmallByFar() {
        dueOfCall(START, "CALL(1, 0, -2147483648) = throws.IllegalArgumentException");
    }

    void onTheDay998TheEndCanBe999() {
        dueOfCall(START, "10 * pass(99); pass(8); CALL(1, 0, 999) = 1; pass(1) = 1");
    }

    void onTheDay999TheEndCannotBe999() {
        dueOfCall(START, "10 * pass(99); pass(9); CALL(1, 0, 999) = throws.IllegalArgumentException");
    }

    void onTheDay999TheEndCanBeNever() {
        dueOfCall(START, "10 * pass(99); pass(9); CALL(1, 0, -1) = 1");
    }

    void returnsTheNumberOfMembershipsInTheGroup() {
        dueOfCall(START, "CALL(1, 0, -1) = 1; CALL(2, 0, 5) = 2");
    }

    void returnsNothingOfOtherGroups() {
        dueOfCall(START, "CALL(2, 0, -1) = 1; CALL(1, 0, -1) = 2; CALL(2, 1, -1) = 1");
    }

    void returnsNothingOfWhatHasEnded() {
        dueOfCall(START, "CALL(2, 0, 4) = 1; pass(4); CALL(1, 0, -1) = 1");
    }

    void takesThePlaceOfAMembershipOfItThere() {
        dueOfCall(START, "CALL(1, 0, 5) = 1; CALL(1, 0, 5) = 1; memberships() = 1");
    }

    void aLaterEndTakesThePlaceOfAnEarlierOne() {
        dueOfCall(START, "CALL(1, 0, 3); CALL(1, 0, 5) = 1; pass(3) = 0; pass(2) = 1");
    }

    void anEarlierEndTakesThePlaceOfALaterOne() {
        dueOfCall(START, "CALL(1, 0, 5); CALL(1, 0, 3) = 1; pass(3) = 1; pass(2) = 0");
    }

    void neverTakesThePlaceOfAnEnd() {
        dueOfCall(START, "CALL(1, 0, 5); CALL(1, 0, -1) = 1; pass(5) = 0; memberships() = 1");
    }

    void anEndTakesThePlaceOfNever() {
        dueOfCall(START, "CALL(1, 0, -1); CALL(1, 0, 5) = 1; pass(5) = 1; memberships() = 0");
    }

    void whatIsInPlaceOfAnotherLeavesTheRestAsItIs() {
        dueOfCall(START, "CALL(1, 0, 5); CALL(2, 0, 4); CALL(2, 1, 4); CALL(2, 0, 6) = 2; pass(4) = 1; pass(1) = 1; pass(1) = 1");
    }

    void aMembershipThatHasEndedCanBeMadeAnew() {
        dueOfCall(START, "CALL(1, 0, 2); pass(2) = 1; CALL(1, 0, 4) = 1; pass(1) = 0; pass(1) = 1");
    }

    void aRefusedCallLeavesTheEndAsItIs() {
        dueOfCall(START, """
            CALL(1, 0, 5)
            CALL(1, 0, 0) = throws.IllegalArgumentException
            CALL(1, 0, 1000) = throws.IllegalArgumentException
            pass(4) = 0
            pass(1) = 1
            """);
    }

    void throwsIndexOutOfBoundsIfTheMemberIsTooSmall() {
        dueOfCall(START, "CALL(-1, 0, 5) = throws.IndexOutOfBoundsException");
    }

    void throwsIndexOutOfBoundsIfTheMemberIsTooLarge() {
        dueOfCall(START, "CALL(3, 0, 5) = throws.IndexOutOfBoundsException");
    }

    void throwsIndexOutOfBoundsIfTheMemberIsFarOff() {
        dueOfCall(START, """
            CALL(33, 0, 5) = throws.IndexOutOfBoundsException
            CALL(-2147483648, 0, 5) = throws.IndexOutOfBoundsException
            CALL(2147483647, 0, 5) = throws.IndexOutOfBoundsException
            """);
    }

    void throwsIndexOutOfBoundsIfTheGroupIsTooSmall() {
        dueOfCall(START, "CALL(1, -1, 5) = throws.IndexOutOfBoundsException");
    }

    void throwsIndexOutOfBoundsIfTheGroupIsTooLarge() {
        dueOfCall(START, "CALL(1, 3, 5) = throws.IndexOutOfBoundsException");
    }

    void throwsIndexOutOfBoundsIfTheGroupIsFarOff() {
        dueOfCall(START, """
            CALL(1, 32, 5) = throws.IndexOutOfBoundsException
            CALL(1, -2147483648, 5) = throws.IndexOutOfBoundsException
            CALL(1, 2147483647, 5) = throws.IndexOutOfBoundsException
            """);
    }

    void throwsIndexOutOfBoundsIfThereAreNoGroups() {
        dueOfCall("CALL(0, 0, -1) = throws.IndexOutOfBoundsException");
    }

    void throwsIndexOutOfBoundsForTheGroup6OfSix() {
        dueOfCall("6 * addGroup(); CALL(0, 6, -1) = throws.IndexOutOfBoundsException");
    }

    void throwsIndexOutOfBoundsFirstIfTheMemberAndTheEndAreOutOfRange() {
        dueOfCall(START, "CALL(3, 0, 0) = throws.IndexOutOfBoundsException");
    }

    void throwsIndexOutOfBoundsFirstIfTheGroupAndTheEndAreOutOfRange() {
        dueOfCall(START, "CALL(1, 3, 1000) = throws.IndexOutOfBoundsException");
    }
}
