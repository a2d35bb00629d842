/** "Tells the heir of an account, which can have left." */
final class Promise03SetHeir extends Cases {
    private static final String START = "3 * addAccount()";

    void returnsMinus1WithoutAnHeirBefore() {
        due(START, "setHeir(1, 2) = -1");
    }

    void returnsTheHeirBefore() {
        due(START, "setHeir(1, 2); setHeir(1, 3) = 2; setHeir(1, 0) = 3");
    }

    void returnsTheWardenAsTheHeirBefore() {
        due(START, "setHeir(1, 0); setHeir(1, 3) = 0");
    }

    void returnsTheSameHeirIfItIsToldAgain() {
        due(START, "setHeir(1, 2); setHeir(1, 2) = 2");
    }

    void minus1IsForNone() {
        due(START, "setHeir(1, 2); setHeir(1, -1) = 2; setHeir(1, 3) = -1");
    }

    void minus1WithoutAnHeirBefore() {
        due(START, "setHeir(1, -1) = -1; setHeir(1, -1) = -1");
    }

    void theWardenCanHaveAnHeir() {
        due(START, "setHeir(0, 1) = -1; setHeir(0, 2) = 1");
    }

    void theWardenCanBeAnHeir() {
        due(START, "setHeir(3, 0) = -1; setHeir(3, -1) = 0");
    }

    void twoAccountsCanBeHeirsOfEachOther() {
        due(START, "setHeir(1, 2) = -1; setHeir(2, 1) = -1; setHeir(1, -1) = 2; setHeir(2, -1) = 1");
    }

    void twoAccountsCanHaveTheSameHeir() {
        due(START, "setHeir(1, 3) = -1; setHeir(2, 3) = -1; setHeir(1, -1) = 3; setHeir(2, -1) = 3");
    }

    void theLastOf10AccountsCanBeTold() {
        due("9 * addAccount(); setHeir(9, 8) = -1; setHeir(8, 9) = -1; setHeir(9, -1) = 8; setHeir(8, -1) = 9");
    }

    void theAccountCanHaveLeft() {
        due(START, "setHeir(1, 2); leave(1); setHeir(1, 3) = 2; setHeir(1, -1) = 3");
    }

    void theHeirCanHaveLeft() {
        due(START, "leave(2); setHeir(1, 2) = -1; setHeir(1, -1) = 2");
    }

    void bothCanHaveLeft() {
        due(START, "leave(1); leave(2); setHeir(1, 2) = -1; setHeir(1, -1) = 2");
    }

    void anHeirThatLeavesStaysTheHeir() {
        due(START, "setHeir(1, 2); leave(2); setHeir(1, -1) = 2");
    }

    void throwsIndexOutOfBoundsIfTheAccountIsTooSmall() {
        due(START, "setHeir(-1, 1) = throws.IndexOutOfBoundsException");
    }

    void throwsIndexOutOfBoundsIfTheAccountIsTooLarge() {
        due(START, "setHeir(4, 1) = throws.IndexOutOfBoundsException");
    }

    void throwsIndexOutOfBoundsIfTheAccountIsFarOff() {
        due(START, """
            setHeir(32, 1) = throws.IndexOutOfBoundsException
            setHeir(-2147483648, 1) = throws.IndexOutOfBoundsException
            setHeir(2147483647, 1) = throws.IndexOutOfBoundsException
            """);
    }

    void throwsIndexOutOfBoundsIfTheAccountIsTooLargeAndTheHeirNone() {
        due(START, "setHeir(4, -1) = throws.IndexOutOfBoundsException");
    }

    void throwsIndexOutOfBoundsIfTheHeirIsLessThanMinus1() {
        due(START, "setHeir(1, -2) = throws.IndexOutOfBoundsException");
    }

    void throwsIndexOutOfBoundsIfTheHeirIsTooLarge() {
        due(START, "setHeir(1, 4) = throws.IndexOutOfBoundsException");
    }

    void throwsIndexOutOfBoundsIfTheHeirIsFarOff() {
        due(START, """
            setHeir(1, 34) = throws.IndexOutOfBoundsException
            setHeir(1, -2147483648) = throws.IndexOutOfBoundsException
            setHeir(1, 2147483647) = throws.IndexOutOfBoundsException
            """);
    }

    void throwsIndexOutOfBoundsFor10OfTenAccounts() {
        due("9 * addAccount()", """
            setHeir(10, 1) = throws.IndexOutOfBoundsException
            setHeir(1, 10) = throws.IndexOutOfBoundsException
            """);
    }

    void throwsIllegalArgumentIfBothAreTheSame() {
        due(START, "setHeir(1, 2); setHeir(1, 1) = throws.IllegalArgumentException; setHeir(1, 3) = 2");
    }

    void throwsIllegalArgumentIfBothAreTheWarden() {
        due(START, "setHeir(0, 0) = throws.IllegalArgumentException");
    }

    void throwsIllegalArgumentIfBothAreTheSameLeaver() {
        due(START, "leave(3); setHeir(3, 3) = throws.IllegalArgumentException");
    }

    void throwsIndexOutOfBoundsFirstIfBothAreTheSameButTooLarge() {
        due(START, "setHeir(4, 4) = throws.IndexOutOfBoundsException");
    }

    void throwsIndexOutOfBoundsFirstIfBothAreMinus1() {
        due(START, "setHeir(-1, -1) = throws.IndexOutOfBoundsException");
    }

    void aRefusedCallLeavesTheHeirAsItIs() {
        due(START, """
            setHeir(1, 2)
            setHeir(1, 1) = throws.IllegalArgumentException
            setHeir(1, 4) = throws.IndexOutOfBoundsException
            setHeir(1, -2) = throws.IndexOutOfBoundsException
            setHeir(1, -1) = 2
            """);
    }
}
