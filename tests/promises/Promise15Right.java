/** "Returns the right of an account to a folder, found from all groups in which it is." */
final class Promise15Right extends RightCases {
    Promise15Right() {
        super("right");
    }
}
