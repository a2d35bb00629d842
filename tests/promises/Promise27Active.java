/** "Returns the number of active accounts." */
final class Promise27Active extends Cases {
    void itIs1OfTheWardenAlone() {
        due("active() = 1");
    }

    void itIsMoreByOneThatIsAdded() {
        due("addAccount(); active() = 2; addAccount(); active() = 3");
    }

    void itIsLessByOneThatLeaves() {
        due("2 * addAccount(); leave(1); active() = 2");
    }

    void itIs10OfAll() {
        due("9 * addAccount(); active() = 10");
    }

    void itIs1IfAllOthersHaveLeft() {
        due("9 * addAccount(); leave(1); leave(2); leave(3); leave(4); leave(5); leave(6); leave(7); leave(8); leave(9); active() = 1");
    }

    void aLeaverThatOwnsAHeldFolderIsNotActive() {
        due("addAccount(); addFolder(1, -1); hold(0); leave(1); active() = 1; release(0); active() = 1");
    }

    void itStaysIfTheWardenIsToLeave() {
        due("addAccount(); leave(0) = throws.UnsupportedOperationException; active() = 2");
    }

    void itStaysIfOneIsToLeaveTwice() {
        due("2 * addAccount(); leave(1); leave(1) = throws.IllegalStateException; active() = 2");
    }

    void itStaysIfAnAccountIsRefused() {
        due("9 * addAccount(); leave(1); addAccount() = throws.IllegalStateException; active() = 9");
    }
}
