/** "Lets days pass. Returns the number of memberships that end by this." */
final class Promise25Pass extends Cases {
    private static final String START = "3 * addAccount(); 4 * addGroup()";

    void the1IsTheLeastNumberOfDays() {
        due(START, "pass(1) = 0; day() = 1");
    }

    void the99IsTheGreatestNumberOfDays() {
        due(START, "pass(99) = 0; day() = 99");
    }

    void throwsIllegalArgumentIfTheDaysAre0() {
        due(START, "join(1, 0, 1); pass(0) = throws.IllegalArgumentException; day() = 0");
    }

    void throwsIllegalArgumentIfTheDaysAreMinus1() {
        due(START, "pass(5); pass(-1) = throws.IllegalArgumentException; day() = 5");
    }

    void throwsIllegalArgumentIfTheDaysAre100() {
        due(START, "join(1, 0, 1); pass(100) = throws.IllegalArgumentException; day() = 0; memberships() = 1");
    }

    void throwsIllegalArgumentIfTheDaysAreTooFewByFar() {
        due(START, "pass(5); pass(-2147483648) = throws.IllegalArgumentException");
    }

    void throwsIllegalArgumentIfTheDaysAreTooManyByFar() {
        due(START, "pass(2147483647) = throws.IllegalArgumentException");
    }

    void throwsIllegalArgumentIfTheDayWouldWrapAround() {
        due(START, "10 * pass(99); pass(9); pass(2147483647) = throws.IllegalArgumentException; pass(2147482649) = throws.IllegalArgumentException");
    }

    void theDayCanBe999() {
        due(START, "10 * pass(99); pass(9) = 0; day() = 999");
    }

    void theDayCanBe999By99Days() {
        due(START, "9 * pass(99); pass(9); pass(99) = 0; day() = 999");
    }

    void throwsIllegalArgumentIfTheDayWouldBe1000() {
        due(START, "10 * pass(99); pass(10) = throws.IllegalArgumentException; day() = 990");
    }

    void throwsIllegalArgumentIfTheDayWouldBe1000By99Days() {
        due(START, "9 * pass(99); pass(10); pass(99) = throws.IllegalArgumentException; pass(98) = 0");
    }

    void throwsIllegalArgumentIfTheDayWouldBe1000By1Day() {
        due(START, "10 * pass(99); pass(9); pass(1) = throws.IllegalArgumentException; day() = 999");
    }

    void throwsIllegalArgumentOnTheDay999If0DaysPass() {
        due(START, "10 * pass(99); pass(9); pass(0) = throws.IllegalArgumentException");
    }

    void aRefusedCallEndsNoMembership() {
        due(START, "10 * pass(99); join(1, 0, 991); pass(10) = throws.IllegalArgumentException; isIn(1, 0) = true; pass(1) = 1");
    }

    void noneEndsWithoutMemberships() {
        due(START, "pass(50) = 0");
    }

    void noneEndsOnTheDayBeforeTheEnd() {
        due(START, "join(1, 0, 5); pass(4) = 0; memberships() = 1");
    }

    void oneEndsOnTheDayOfItsEnd() {
        due(START, "join(1, 0, 5); pass(5) = 1; memberships() = 0");
    }

    void oneEndsThoughMoreDaysPass() {
        due(START, "join(1, 0, 5); pass(99) = 1; memberships() = 0");
    }

    void oneOfAGroupEndsOnTheDayOfItsEnd() {
        due(START, "nest(1, 0, 5); pass(4) = 0; pass(1) = 1; memberships() = 0");
    }

    void theEndsOfAllDaysThatPassCount() {
        due(START, "join(1, 0, 1); join(2, 1, 2); nest(0, 1, 3); join(3, 3, 4); pass(3) = 3; memberships() = 1");
    }

    void thoseOfAccountsAndGroupsCountTogether() {
        due(START, "join(1, 0, 5); join(2, 0, 5); nest(0, 1, 5); nest(2, 1, 5); nest(3, 1, 6); pass(5) = 4");
    }

    void oneThatHasEndedDoesNotEndAgain() {
        due(START, "join(1, 0, 5); pass(5) = 1; pass(1) = 0; pass(99) = 0");
    }

    void oneWithoutAnEndDoesNotEnd() {
        due(START, "join(1, 0, -1); nest(0, 1, -1); 10 * pass(99); pass(9) = 0; memberships() = 2");
    }

    void oneOfALeaverEnds() {
        due(START, "join(1, 0, 5); leave(1); pass(5) = 1; memberships() = 0");
    }

    void oneThatWasDroppedDoesNotEnd() {
        due(START, "join(1, 0, 5); join(2, 0, 5); drop(1, 0); pass(5) = 1");
    }

    void oneInPlaceOfAnotherEndsOnItsOwnDay() {
        due(START, "join(1, 0, 5); join(1, 0, 7); pass(6) = 0; pass(1) = 1");
    }

    void oneOfTheLastDayEnds() {
        due(START, "join(1, 0, 999); nest(0, 1, 999); 10 * pass(99); pass(8) = 0; pass(1) = 2");
    }

    void itEndsOfAllAccountsAndGroupsAtOnce() {
        StringBuilder rows = new StringBuilder("9 * addAccount(); 6 * addGroup()\n");
        for (int group = 0; group < 6; group++) {
            for (int account = 0; account < 10; account++) {
                rows.append("join(" + account + ", " + group + ", 99)\n");
            }
            for (int outer = group + 1; outer < 6; outer++) {
                rows.append("nest(" + group + ", " + outer + ", 99)\n");
            }
        }
        due(rows.toString(), "pass(98) = 0; pass(1) = 75; memberships() = 0");
    }

    void heldFoldersAndLeaversStayAsTheyAre() {
        due(START, "addFolder(1, -1); hold(0); leave(1); pass(99); owner(0) = 1; active() = 3; release(0) = 0");
    }
}
