/** "Returns the number of accounts that read a room." */
final class Promise20Readers extends Cases {
    private static final String START = "3 * addAccount(); 3 * addGroup(); addRoom(1)";

    void itIs1OfAnEmptyGroupForTheWarden() {
        due(START, "readers(0) = 1");
    }

    void itIs1OfOneMember() {
        due(START, "join(1, 1, -1); readers(0) = 1");
    }

    void itIs2OfTwoMembers() {
        due(START, "join(1, 1, -1); join(2, 1, 5); readers(0) = 2");
    }

    void theWardenCountsAsAMember() {
        due(START, "join(0, 1, -1); readers(0) = 1; join(1, 1, -1); readers(0) = 2");
    }

    void theWardenDoesNotCountBesideMembers() {
        due(START, "join(1, 1, -1); join(2, 1, -1); join(3, 1, -1); readers(0) = 3");
    }

    void itIs10OfAll10Accounts() {
        due("9 * addAccount(); addGroup(); addRoom(0)", """
            join(0, 0, -1); join(1, 0, -1); join(2, 0, -1); join(3, 0, -1); join(4, 0, -1)
            join(5, 0, -1); join(6, 0, -1); join(7, 0, -1); join(8, 0, -1); join(9, 0, -1)
            readers(0) = 10
            """);
    }

    void aLeaverDoesNotCount() {
        due(START, "join(1, 1, -1); join(2, 1, -1); join(3, 1, -1); leave(2); readers(0) = 2");
    }

    void itIs1IfAllMembersHaveLeft() {
        due(START, "join(1, 1, -1); join(2, 1, -1); leave(1); leave(2); readers(0) = 1");
    }

    void itIsLessOnTheDayOfAnEnd() {
        due(START, "join(1, 1, 5); join(2, 1, -1); pass(4); readers(0) = 2; pass(1); readers(0) = 1");
    }

    void itIs1OnTheDayOfTheLastEnd() {
        due(START, "join(1, 1, 5); join(2, 1, 5); pass(5); readers(0) = 1; reads(0, 0) = true");
    }

    void whoIsInOverAnotherGroupCounts() {
        due(START, "join(1, 1, -1); join(2, 0, -1); join(3, 2, -1); nest(0, 1, -1); nest(2, 0, -1); readers(0) = 3");
    }

    void whoIsInOverTwoWaysCountsOnce() {
        due(START, "join(1, 1, -1); join(1, 0, -1); join(1, 2, -1); nest(0, 1, -1); nest(2, 1, -1); join(2, 0, -1); readers(0) = 2");
    }

    void whoIsInAnotherGroupDoesNotCount() {
        due(START, "join(1, 0, -1); join(2, 2, -1); join(3, 2, -1); nest(1, 2, -1); readers(0) = 1; reads(0, 0) = true");
    }

    void theLastOf4RoomsHasReaders() {
        due(START, "2 * addRoom(0); addRoom(2); join(1, 2, -1); join(2, 2, -1); readers(3) = 2; readers(2) = 1");
    }

    void throwsIndexOutOfBoundsIfTheRoomIsTooSmall() {
        due(START, "readers(-1) = throws.IndexOutOfBoundsException");
    }

    void throwsIndexOutOfBoundsIfTheRoomIsTooLarge() {
        due(START, "readers(1) = throws.IndexOutOfBoundsException");
    }

    void throwsIndexOutOfBoundsIfTheRoomIsFarOff() {
        due(START, """
            readers(32) = throws.IndexOutOfBoundsException
            readers(-2147483648) = throws.IndexOutOfBoundsException
            readers(2147483647) = throws.IndexOutOfBoundsException
            """);
    }

    void throwsIndexOutOfBoundsIfThereAreNoRooms() {
        due("addGroup(); readers(0) = throws.IndexOutOfBoundsException");
    }

    void throwsIndexOutOfBoundsForTheRoom4OfFour() {
        due("addGroup(); 4 * addRoom(0); readers(4) = throws.IndexOutOfBoundsException");
    }
}
