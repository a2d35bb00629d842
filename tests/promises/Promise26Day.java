/** "Returns the day." */
final class Promise26Day extends Cases {
    void itIs0AtFirst() {
        due("day() = 0");
    }

    void itIsLaterByTheDaysThatPassed() {
        due("pass(1); day() = 1; pass(98); day() = 99; pass(99); day() = 198");
    }

    void itIs999AtLast() {
        due("10 * pass(99); pass(9); day() = 999");
    }

    void itStaysIfNoDaysPass() {
        due("pass(3); addAccount(); addGroup(); addFolder(1, -1); addRoom(0); join(1, 0, 9); hold(0); leave(1); release(0); day() = 3");
    }

    void itStaysIfDaysAreRefused() {
        due("pass(3); pass(0) = throws.IllegalArgumentException; pass(100) = throws.IllegalArgumentException; day() = 3");
    }
}
