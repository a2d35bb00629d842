/** All that the looking calls of a FolderKeeper answer, for all numbers that there can be. */
final class Look {
    private Look() {
    }

    static String at(FolderKeeper x) {
        StringBuilder told = new StringBuilder();
        tell(told, () -> x.day());
        tell(told, () -> x.active());
        tell(told, () -> x.memberships());
        tell(told, () -> x.openShare());
        tell(told, () -> x.meanOwned());
        for (int i = 0; i < 12; i++) {
            int one = i;
            tell(told, () -> x.owner(one));
            tell(told, () -> x.keeper(one));
            tell(told, () -> x.readers(one));
            for (int right = 1; right <= 3; right++) {
                int least = right;
                tell(told, () -> x.holders(one, least));
            }
            for (int account = 0; account < 10; account++) {
                int other = account;
                tell(told, () -> x.right(other, one));
                tell(told, () -> x.rightByWalking(other, one));
                tell(told, () -> x.isIn(other, one));
                tell(told, () -> x.reads(other, one));
            }
        }
        return told.toString();
    }

    private static void tell(StringBuilder told, Check.Call call) {
        told.append(Check.answerOf(call)).append(' ');
    }
}
