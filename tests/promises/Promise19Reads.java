/** "Returns whether an account reads a room": the active accounts in its group do, or the warden alone. */
final class Promise19Reads extends Cases {
    private static final String START = "3 * addAccount(); 3 * addGroup(); addRoom(1)";

    void aMemberReads() {
        due(START, "join(1, 1, 5); reads(1, 0) = true");
    }

    void whoIsNoMemberDoesNot() {
        due(START, "join(1, 1, 5); reads(2, 0) = false");
    }

    void aMemberOfAnotherGroupDoesNot() {
        due(START, "join(1, 1, -1); join(2, 0, -1); join(3, 2, -1); reads(2, 0) = false; reads(3, 0) = false");
    }

    void theWardenDoesNotBesideAMember() {
        due(START, "join(1, 1, -1); reads(0, 0) = false");
    }

    void theWardenDoesAsAMemberAmongOthers() {
        due(START, "join(1, 1, -1); join(0, 1, -1); reads(0, 0) = true; reads(1, 0) = true");
    }

    void theWardenDoesAsTheOnlyMember() {
        due(START, "join(0, 1, -1); reads(0, 0) = true; reads(1, 0) = false");
    }

    void theWardenDoesIfTheGroupIsEmpty() {
        due(START, "reads(0, 0) = true");
    }

    void theWardenAloneDoesIfTheGroupIsEmpty() {
        due(START, "reads(1, 0) = false; reads(2, 0) = false; reads(3, 0) = false");
    }

    void theWardenDoesIfAllMembersHaveLeft() {
        due(START, "join(1, 1, -1); join(2, 1, -1); leave(1); reads(0, 0) = false; leave(2); reads(0, 0) = true");
    }

    void aLeaverDoesNot() {
        due(START, "join(1, 1, -1); join(2, 1, -1); leave(1); reads(1, 0) = false; reads(2, 0) = true");
    }

    void aLeaverThatIsTheOnlyMemberDoesNot() {
        due(START, "join(1, 1, -1); leave(1); reads(1, 0) = false");
    }

    void aMemberReadsOnTheDayBeforeTheEnd() {
        due(START, "join(1, 1, 5); pass(4); reads(1, 0) = true; reads(0, 0) = false");
    }

    void theWardenReadsOnTheDayOfTheLastEnd() {
        due(START, "join(1, 1, 5); pass(5); reads(1, 0) = false; reads(0, 0) = true");
    }

    void theWardenReadsAfterTheLastIsDropped() {
        due(START, "join(1, 1, -1); drop(1, 1); reads(0, 0) = true; reads(1, 0) = false");
    }

    void theWardenDoesNotAfterAMemberHasJoined() {
        due(START, "reads(0, 0) = true; join(3, 1, -1); reads(0, 0) = false");
    }

    void whoIsInOverAnotherGroupReads() {
        due(START, "join(1, 0, -1); nest(0, 2, -1); nest(2, 1, -1); reads(1, 0) = true; reads(0, 0) = false");
    }

    void whoIsInAGroupAroundDoesNot() {
        due(START, "join(1, 2, -1); nest(1, 2, -1); reads(1, 0) = false; reads(0, 0) = true");
    }

    void anEmptyGroupInItLeavesTheWardenToRead() {
        due(START, "nest(0, 1, -1); reads(0, 0) = true; reads(1, 0) = false");
    }

    void eachRoomHasReadersOfItsOwn() {
        due(START, "addRoom(0); join(1, 1, -1); join(2, 0, -1)",
            "reads(1, 0) = true; reads(1, 1) = false; reads(2, 0) = false; reads(2, 1) = true");
    }

    void theLastOf10AccountsReadsTheLastOf4Rooms() {
        due("9 * addAccount(); 6 * addGroup(); 3 * addRoom(0); addRoom(5); join(9, 5, -1); reads(9, 3) = true; reads(8, 3) = false");
    }

    void throwsIndexOutOfBoundsIfTheAccountIsTooSmall() {
        due(START, "reads(-1, 0) = throws.IndexOutOfBoundsException");
    }

    void throwsIndexOutOfBoundsIfTheAccountIsTooLarge() {
        due(START, "reads(4, 0) = throws.IndexOutOfBoundsException");
    }

    void throwsIndexOutOfBoundsIfTheAccountIsFarOff() {
        due(START, """
            reads(32, 0) = throws.IndexOutOfBoundsException
            reads(-2147483648, 0) = throws.IndexOutOfBoundsException
            reads(2147483647, 0) = throws.IndexOutOfBoundsException
            """);
    }

    void throwsIndexOutOfBoundsIfTheRoomIsTooSmall() {
        due(START, "reads(0, -1) = throws.IndexOutOfBoundsException");
    }

    void throwsIndexOutOfBoundsIfTheRoomIsTooLarge() {
        due(START, "reads(0, 1) = throws.IndexOutOfBoundsException");
    }

    void throwsIndexOutOfBoundsIfTheRoomIsFarOff() {
        due(START, """
            reads(0, 32) = throws.IndexOutOfBoundsException
            reads(0, -2147483648) = throws.IndexOutOfBoundsException
            reads(0, 2147483647) = throws.IndexOutOfBoundsException
            """);
    }

    void throwsIndexOutOfBoundsIfThereAreNoRooms() {
        due("addGroup(); reads(0, 0) = throws.IndexOutOfBoundsException");
    }

    void throwsIndexOutOfBoundsForTheAccount10AndTheRoom4() {
        due("9 * addAccount(); addGroup(); 4 * addRoom(0)", """
            reads(10, 0) = throws.IndexOutOfBoundsException
            reads(0, 4) = throws.IndexOutOfBoundsException
            """);
    }
}
