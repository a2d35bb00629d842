/** "Adds an account, active and without an heir." */
final class Promise02AddAccount extends Cases {
    void theFirstIsTheAccount1() {
        due("addAccount() = 1");
    }

    void theyAreNumberedOneByOne() {
        due("addAccount() = 1; addAccount() = 2; addAccount() = 3");
    }

    void itIsActive() {
        due("addAccount(); active() = 2; leave(1) = 0");
    }

    void itHasNoHeir() {
        due("addAccount(); setHeir(1, -1) = -1");
    }

    void itHasNoHeirThoughOthersHave() {
        due("addAccount(); setHeir(0, 1); setHeir(1, 0); addAccount(); setHeir(2, -1) = -1");
    }

    void itIsInNoGroupAndHasNoRight() {
        due("""
            addGroup(); addFolder(0, -1); join(0, 0, -1); shareWithGroup(0, 0, 2)
            addAccount()
            isIn(1, 0) = false
            right(1, 0) = 0
            """);
    }

    void theTenthAccountIsAdded() {
        due("8 * addAccount(); addAccount() = 9; active() = 10");
    }

    void throwsIllegalStateIfThereAre10Accounts() {
        due("9 * addAccount(); addAccount() = throws.IllegalStateException");
    }

    void throwsIllegalStateIfThereAre10AccountsOfWhichOneHasLeft() {
        due("9 * addAccount(); leave(9); addAccount() = throws.IllegalStateException");
    }

    void throwsIllegalStateAgainAndAgain() {
        due("9 * addAccount()", "addAccount() = throws.IllegalStateException\n".repeat(3));
    }

    void theNumberOfALeaverIsNotGivenAgain() {
        due("2 * addAccount(); leave(1); leave(2); addAccount() = 3; active() = 2");
    }
}
