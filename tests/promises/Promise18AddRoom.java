/** "Adds a room." */
final class Promise18AddRoom extends Cases {
    private static final String START = "2 * addAccount(); 3 * addGroup()";

    void theFirstIsTheRoom0() {
        due(START, "addRoom(2) = 0");
    }

    void theyAreNumberedOneByOne() {
        due(START, "addRoom(2) = 0; addRoom(0) = 1; addRoom(1) = 2");
    }

    void itBelongsToItsGroup() {
        due(START, "join(1, 1, -1); join(2, 2, -1); addRoom(2); addRoom(1)",
            "reads(2, 0) = true; reads(1, 0) = false; reads(1, 1) = true; reads(2, 1) = false");
    }

    void twoRoomsCanBelongToOneGroup() {
        due(START, "join(1, 1, -1); addRoom(1) = 0; addRoom(1) = 1; reads(1, 0) = true; reads(1, 1) = true");
    }

    void itCanBelongToTheLastOf6Groups() {
        due("addAccount(); 6 * addGroup(); join(1, 5, -1); addRoom(5) = 0; reads(1, 0) = true");
    }

    void theFourthRoomIsAdded() {
        due(START, "3 * addRoom(0); addRoom(1) = 3; readers(3) = 1");
    }

    void throwsIllegalStateIfThereAre4Rooms() {
        due(START, "4 * addRoom(0); addRoom(0) = throws.IllegalStateException");
    }

    void throwsIllegalStateIfThereAre4RoomsOfOtherGroups() {
        due(START, "4 * addRoom(0); addRoom(2) = throws.IllegalStateException");
    }

    void throwsIndexOutOfBoundsIfTheGroupIsTooSmall() {
        due(START, "addRoom(-1) = throws.IndexOutOfBoundsException");
    }

    void throwsIndexOutOfBoundsIfTheGroupIsTooLarge() {
        due(START, "addRoom(3) = throws.IndexOutOfBoundsException");
    }

    void throwsIndexOutOfBoundsIfTheGroupIsFarOff() {
        due(START, """
            addRoom(32) = throws.IndexOutOfBoundsException
            addRoom(-2147483648) = throws.IndexOutOfBoundsException
            addRoom(2147483647) = throws.IndexOutOfBoundsException
            """);
    }

    void throwsIndexOutOfBoundsIfThereAreNoGroups() {
        due("addRoom(0) = throws.IndexOutOfBoundsException");
    }

    void throwsIndexOutOfBoundsForTheGroup6OfSix() {
        due("6 * addGroup(); addRoom(6) = throws.IndexOutOfBoundsException");
    }

    void throwsIndexOutOfBoundsFirstIfThereAre4RoomsAndNoSuchGroup() {
        due(START, "4 * addRoom(0); addRoom(3) = throws.IndexOutOfBoundsException; addRoom(-1) = throws.IndexOutOfBoundsException");
    }
}
