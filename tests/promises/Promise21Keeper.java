/**
 * "Returns who would be the keeper of a folder if it was not held, and its owner left now, or has left already; for a
 * folder of the warden, too, as if the warden could leave and be a keeper all the same."
 */
final class Promise21Keeper extends Cases {
    private static final String START = "5 * addAccount()";
    /** The folder 1 is of the account 1, below the folder 0 of the account 5. */
    private static final String BELOW_5 = START + "; addFolder(5, -1); addFolder(1, 0)";
    /** The folders 1, 2 and 3 are of the account 1, in a chain below the folder 0 of the account 5. */
    private static final String CHAIN_BELOW_5 = BELOW_5 + "; addFolder(1, 1); addFolder(1, 2)";
    /** The same of the warden, who has no heir. */
    private static final String WARDENS_BELOW_5 = START
        + "; addFolder(5, -1); addFolder(0, 0); addFolder(0, 1); addFolder(0, 2)";
    private static final String ALL_ACCOUNTS = "9 * addAccount(); addFolder(9, -1); addFolder(1, 0)";

    void itIsTheHeir() {
        due(START, "addFolder(1, -1); setHeir(1, 2); keeper(0) = 2");
    }

    void itIsTheHeirRatherThanTheOwnerOfTheParent() {
        due(BELOW_5, "setHeir(1, 2); keeper(1) = 2");
    }

    void itIsTheHeirsHeirIfTheHeirHasLeft() {
        due(BELOW_5, "setHeir(1, 2); setHeir(2, 3); leave(2); keeper(1) = 3");
    }

    void itIsTheFirstActiveOneOnTheChain() {
        due(BELOW_5, "setHeir(1, 4); setHeir(4, 3); setHeir(3, 2); leave(4); keeper(1) = 3");
    }

    void itIsTheLastOnAChainOfAllAccountsByRisingNumbers() {
        due(ALL_ACCOUNTS, """
            setHeir(1, 2); setHeir(2, 3); setHeir(3, 4); setHeir(4, 5)
            setHeir(5, 6); setHeir(6, 7); setHeir(7, 8); setHeir(8, 0)
            leave(2); leave(3); leave(4); leave(5); leave(6); leave(7); leave(8)
            keeper(1) = 0
            setHeir(8, 9); keeper(1) = 9
            """);
    }

    void itIsTheLastOnAChainOfAllAccountsByFallingNumbers() {
        due("9 * addAccount(); addFolder(9, -1)", """
            setHeir(9, 8); setHeir(8, 7); setHeir(7, 6); setHeir(6, 5)
            setHeir(5, 4); setHeir(4, 3); setHeir(3, 2); setHeir(2, 1)
            leave(8); leave(7); leave(6); leave(5); leave(4); leave(3); leave(2)
            keeper(0) = 1
            """);
    }

    void itIsTheOwnerOfTheParentIfTheChainEndsWithLeavers() {
        due(BELOW_5, "setHeir(1, 2); setHeir(2, 3); leave(2); leave(3); keeper(1) = 5");
    }

    void itIsTheWardenIfTheChainEndsWithLeaversAndThereIsNoParent() {
        due(START, "addFolder(1, -1); setHeir(1, 2); leave(2); keeper(0) = 0");
    }

    void itIsTheHeirThoughTheChainComesBackToTheOwner() {
        due(BELOW_5, "setHeir(1, 2); setHeir(2, 1); keeper(1) = 2");
    }

    void itIsTheOwnerOfTheParentIfAChainOfLeaversComesBackToTheOwner() {
        due(BELOW_5, "setHeir(1, 2); setHeir(2, 1); leave(2); keeper(1) = 5");
    }

    void itIsTheWardenIfAChainOfLeaversComesBackToTheOwnerAndThereIsNoParent() {
        due(START, "addFolder(1, -1); setHeir(1, 2); setHeir(2, 1); leave(2); keeper(0) = 0");
    }

    void itIsTheOwnerOfTheParentIfAChainOfLeaversGoesRoundWithoutTheOwner() {
        due(BELOW_5, "setHeir(1, 2); setHeir(2, 3); setHeir(3, 2); leave(2); leave(3); keeper(1) = 5");
    }

    void itIsTheOwnerOfTheParentIfAChainOfAllButItGoesRound() {
        due(ALL_ACCOUNTS, """
            setHeir(1, 2); setHeir(2, 3); setHeir(3, 4); setHeir(4, 5)
            setHeir(5, 6); setHeir(6, 7); setHeir(7, 8); setHeir(8, 1)
            leave(2); leave(3); leave(4); leave(5); leave(6); leave(7); leave(8)
            keeper(1) = 9
            """);
    }

    void itIsTheWardenAsTheHeirRatherThanTheOwnerOfTheParent() {
        due(BELOW_5, "setHeir(1, 0); keeper(1) = 0");
    }

    void itIsTheWardenAsTheHeirRatherThanTheWardensHeir() {
        due(BELOW_5, "setHeir(1, 0); setHeir(0, 2); keeper(1) = 0");
    }

    void itIsNotTheHeirOfTheOwnerOfTheParent() {
        due(BELOW_5, "setHeir(5, 2); keeper(1) = 5");
    }

    void itIsNotWhoseHeirTheOwnerIs() {
        due(BELOW_5, "setHeir(2, 1); keeper(1) = 5");
    }

    void itIsTheOwnerOfTheParentWithoutAnHeir() {
        due(BELOW_5, "keeper(1) = 5");
    }

    void itIsTheOwnerOfTheParentEvenIfTheFolderIsBroken() {
        due(BELOW_5, "setBroken(1, true); keeper(1) = 5");
    }

    void itIsTheOwnerOfTheParentEvenIfTheParentIsHeld() {
        due(BELOW_5, "hold(0); keeper(1) = 5");
    }

    void itIsTheOwnerOfTheParentAndNotOfTheFolderAboveThat() {
        due(START, "addFolder(4, -1); addFolder(5, 0); addFolder(1, 1); keeper(2) = 5");
    }

    void itIsTheWardenAsTheOwnerOfTheParent() {
        due(START, "addFolder(0, -1); addFolder(1, 0); setHeir(0, 2); keeper(1) = 0");
    }

    void itIsTheWardenWithoutAnHeirAndAParent() {
        due(START, "addFolder(1, -1); keeper(0) = 0");
    }

    void itIsTheWardenRatherThanTheWardensHeir() {
        due(START, "addFolder(1, -1); setHeir(0, 2); keeper(0) = 0");
    }

    void itIsTheWardenIfTheOwnerOfTheParentHasLeft() {
        due(BELOW_5, "hold(0); leave(5); keeper(1) = 0");
    }

    void itIsTheWardenIfTheOwnerOfTheParentHasLeftThoughItHasAnHeir() {
        due(BELOW_5, "setHeir(5, 4); hold(0); leave(5); keeper(1) = 0");
    }

    void itIsTheWardenIfTheOwnerOfTheParentHasLeftAndTheOneAboveHasNot() {
        due(START, "addFolder(4, -1); addFolder(5, 0); addFolder(1, 1); hold(1); leave(5); keeper(2) = 0");
    }

    void theOwnersFolderAboveGetsItsKeeperFirst() {
        due(CHAIN_BELOW_5, "keeper(2) = 5");
    }

    void theOwnersTwoFoldersAboveGetTheirKeepersFirst() {
        due(CHAIN_BELOW_5, "keeper(3) = 5");
    }

    void theOwners11FoldersAboveGetTheirKeepersFirst() {
        due(CHAIN_BELOW_5, """
            addFolder(1, 3); addFolder(1, 4); addFolder(1, 5); addFolder(1, 6)
            addFolder(1, 7); addFolder(1, 8); addFolder(1, 9); addFolder(1, 10)
            keeper(11) = 5
            """);
    }

    void itIsTheWardenIfTheOwnersFolderAboveHasNoParent() {
        due(START, "addFolder(1, -1); addFolder(1, 0); keeper(1) = 0");
    }

    void itIsTheWardenIfTheOwnersFolderAboveIsHeld() {
        due(CHAIN_BELOW_5, "hold(1); keeper(2) = 0");
    }

    void itIsTheWardenIfTheOwnersSecondFolderAboveIsHeld() {
        due(CHAIN_BELOW_5, "hold(1); keeper(3) = 0");
    }

    void itIsTheOwnerOfTheParentIfTheOwnersFolderAboveThatIsHeld() {
        due(START, "addFolder(1, -1); addFolder(5, 0); addFolder(1, 1); hold(0); keeper(2) = 5");
    }

    void itIsTheWardenIfTheOwnersFolderAboveIsBelowThatOfALeaver() {
        due(CHAIN_BELOW_5, "hold(0); leave(5); keeper(2) = 0");
    }

    void aHeldFolderHasTheKeeperItWouldHaveIfItWasNotHeld() {
        due(BELOW_5, "hold(1); keeper(1) = 5; setHeir(1, 2); keeper(1) = 2");
    }

    void aHeldFolderBelowOneOfTheOwnerHasTheKeeperItWouldHaveIfItWasNotHeld() {
        due(CHAIN_BELOW_5, "hold(2); keeper(2) = 5; keeper(3) = 0");
    }

    void theOwnerCanHaveLeftAlready() {
        due(BELOW_5, "hold(1); leave(1); keeper(1) = 5");
    }

    void theOwnerCanHaveLeftAlreadyAndGetAnHeirSince() {
        due(BELOW_5, "hold(1); leave(1); setHeir(1, 3); keeper(1) = 3");
    }

    void theOwnerCanHaveLeftAlreadyAndLoseItsHeirSince() {
        due(BELOW_5, "setHeir(1, 3); hold(1); leave(1); keeper(1) = 3; leave(3); keeper(1) = 5");
    }

    void theOwnersHeldFolderAboveStaysAsItIsIfItHasLeftAlready() {
        due(CHAIN_BELOW_5, "hold(1); hold(2); leave(1); keeper(1) = 5; keeper(2) = 0");
    }

    void theReleasedFolderAboveHasItsKeeperIfTheOwnerHasLeftAlready() {
        due(CHAIN_BELOW_5, "hold(1); hold(2); leave(1); release(1); keeper(2) = 5");
    }

    void itIsTheWardenWithoutAnHeirAndAParentForAFolderOfTheWarden() {
        due(START, "addFolder(0, -1); keeper(0) = 0");
    }

    void itIsTheWardensHeir() {
        due(START, "addFolder(0, -1); setHeir(0, 2); keeper(0) = 2");
    }

    void itIsTheWardensHeirRatherThanTheOwnerOfTheParent() {
        due(WARDENS_BELOW_5, "setHeir(0, 2); keeper(1) = 2; keeper(3) = 2");
    }

    void itIsTheHeirsHeirIfTheWardensHeirHasLeft() {
        due(WARDENS_BELOW_5, "setHeir(0, 2); setHeir(2, 3); leave(2); keeper(1) = 3");
    }

    void itIsTheOwnerOfTheParentIfTheWardensHeirsHaveLeft() {
        due(WARDENS_BELOW_5, "setHeir(0, 2); leave(2); keeper(1) = 5");
    }

    void itIsTheOwnerOfTheParentIfAChainOfLeaversComesBackToTheWarden() {
        due(WARDENS_BELOW_5, "setHeir(0, 2); setHeir(2, 0); leave(2); keeper(1) = 5");
    }

    void itIsTheWardenIfAChainOfLeaversComesBackToTheWardenAndThereIsNoParent() {
        due(START, "addFolder(0, -1); setHeir(0, 2); setHeir(2, 0); leave(2); keeper(0) = 0");
    }

    void itIsTheWardensHeirThoughTheChainComesBackToTheWarden() {
        due(WARDENS_BELOW_5, "setHeir(0, 2); setHeir(2, 0); keeper(1) = 2");
    }

    void itIsTheOwnerOfTheParentOfAFolderOfTheWarden() {
        due(WARDENS_BELOW_5, "keeper(1) = 5");
    }

    void theWardensFoldersAboveGetTheirKeepersFirst() {
        due(WARDENS_BELOW_5, "keeper(2) = 5; keeper(3) = 5");
    }

    void itIsTheWardenIfTheWardensFolderAboveHasNoParent() {
        due(START, "addFolder(0, -1); addFolder(0, 0); keeper(1) = 0");
    }

    void itIsTheWardenIfTheWardensFolderAboveIsHeld() {
        due(WARDENS_BELOW_5, "hold(1); keeper(2) = 0; keeper(3) = 0");
    }

    void itIsTheWardenIfTheOwnerAboveTheWardensFolderHasLeft() {
        due(WARDENS_BELOW_5, "hold(0); leave(5); keeper(1) = 0");
    }

    void aHeldFolderOfTheWardenHasTheKeeperItWouldHaveIfItWasNotHeld() {
        due(WARDENS_BELOW_5, "hold(1); keeper(1) = 5; setHeir(0, 3); keeper(1) = 3");
    }

    void nobodyLeavesByTheLook() {
        due(CHAIN_BELOW_5, "keeper(2) = 5; active() = 6; owner(1) = 1; owner(2) = 1; right(1, 2) = 3");
    }

    void theLeaveThatFollowsGivesTheFolderToIt() {
        due(CHAIN_BELOW_5, "hold(1); keeper(2) = 0; keeper(3) = 0; leave(1) = 2; owner(2) = 0; owner(3) = 0; owner(1) = 1");
    }

    void theReleaseThatFollowsGivesTheFolderToIt() {
        due(BELOW_5, "hold(1); leave(1); keeper(1) = 5; release(1) = 5");
    }

    void throwsIndexOutOfBoundsIfTheFolderIsTooSmall() {
        due(BELOW_5, "keeper(-1) = throws.IndexOutOfBoundsException");
    }

    void throwsIndexOutOfBoundsIfTheFolderIsTooLarge() {
        due(BELOW_5, "keeper(2) = throws.IndexOutOfBoundsException");
    }

    void throwsIndexOutOfBoundsIfTheFolderIsFarOff() {
        due(BELOW_5, """
            keeper(33) = throws.IndexOutOfBoundsException
            keeper(-2147483648) = throws.IndexOutOfBoundsException
            keeper(2147483647) = throws.IndexOutOfBoundsException
            """);
    }

    void throwsIndexOutOfBoundsIfThereAreNoFolders() {
        due(START, "keeper(0) = throws.IndexOutOfBoundsException");
    }

    void throwsIndexOutOfBoundsForTheFolder12OfTwelve() {
        due("12 * addFolder(0, -1); keeper(12) = throws.IndexOutOfBoundsException");
    }
}
