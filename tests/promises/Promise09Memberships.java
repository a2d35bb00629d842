/** "Returns the number of memberships of all groups, of accounts and groups." */
final class Promise09Memberships extends Cases {
    private static final String START = "3 * addAccount(); 3 * addGroup()";

    void thereAreNoneWithoutGroups() {
        due("memberships() = 0");
    }

    void thereAreNoneInEmptyGroups() {
        due(START, "memberships() = 0");
    }

    void thoseOfAccountsCount() {
        due(START, "join(1, 0, -1); memberships() = 1; join(2, 0, 5); memberships() = 2");
    }

    void thoseOfGroupsCount() {
        due(START, "nest(1, 0, -1); memberships() = 1; nest(2, 0, 5); memberships() = 2");
    }

    void thoseOfAccountsAndGroupsCountTogether() {
        due(START, "nest(1, 0, -1); join(1, 0, -1); memberships() = 2");
    }

    void thoseOfAllGroupsCount() {
        due("6 * addGroup(); join(0, 0, -1); join(0, 1, -1); join(0, 2, -1); join(0, 3, -1); join(0, 4, -1); join(0, 5, -1)",
            "memberships() = 6");
    }

    void whoIsInOverAnotherGroupDoesNotCount() {
        due(START, "join(1, 0, -1); nest(0, 1, -1); nest(1, 2, -1); memberships() = 3");
    }

    void oneInPlaceOfAnotherCountsOnce() {
        due(START, "join(1, 0, -1); join(1, 0, 5); nest(1, 0, 5); nest(1, 0, -1); memberships() = 2");
    }

    void thoseOfALeaverCount() {
        due(START, "join(1, 0, -1); join(1, 1, -1); leave(1); memberships() = 2");
    }

    void oneThatIsDroppedDoesNotCount() {
        due(START, "join(1, 0, -1); join(2, 0, -1); drop(1, 0); memberships() = 1");
    }

    void oneOfAnAccountCountsOnTheDayBeforeItsEnd() {
        due(START, "join(1, 0, 5); pass(4); memberships() = 1");
    }

    void oneOfAnAccountDoesNotCountOnTheDayOfItsEnd() {
        due(START, "join(1, 0, 5); pass(5); memberships() = 0");
    }

    void oneOfAGroupCountsOnTheDayBeforeItsEnd() {
        due(START, "nest(1, 0, 5); pass(4); memberships() = 1");
    }

    void oneOfAGroupDoesNotCountOnTheDayOfItsEnd() {
        due(START, "nest(1, 0, 5); pass(5); memberships() = 0");
    }

    void oneOfALeaverDoesNotCountOnTheDayOfItsEnd() {
        due(START, "join(1, 0, 5); leave(1); pass(5); memberships() = 0");
    }

    void oneThatIsRefusedDoesNotCount() {
        due(START, """
            leave(1); nest(0, 1, -1)
            join(1, 0, -1) = throws.UnsupportedOperationException
            nest(1, 0, -1) = throws.UnsupportedOperationException
            join(2, 0, 0) = throws.IllegalArgumentException
            memberships() = 1
            """);
    }

    void thoseOfAllAccountsInAllGroupsAre60() {
        StringBuilder rows = new StringBuilder("9 * addAccount(); 6 * addGroup()\n");
        for (int account = 0; account < 10; account++) {
            for (int group = 0; group < 6; group++) {
                rows.append("join(" + account + ", " + group + ", -1)\n");
            }
        }
        due(rows.toString(), "memberships() = 60");
    }

    void thoseOfAllGroupsInEachOtherAre15() {
        StringBuilder rows = new StringBuilder("6 * addGroup()\n");
        for (int inner = 0; inner < 6; inner++) {
            for (int outer = inner + 1; outer < 6; outer++) {
                rows.append("nest(" + inner + ", " + outer + ", -1)\n");
            }
        }
        due(rows.toString(), "memberships() = 15");
    }
}
