/** "Returns the same right, found by walking each chain of folders and memberships." */
final class Promise16RightByWalking extends RightCases {
    private static final String ALL_GROUPS_IN_EACH_OTHER = """
        2 * addAccount(); 6 * addGroup(); addFolder(0, -1); addFolder(0, 0); shareWithGroup(0, 5, 1)
        nest(0, 1, -1); nest(0, 2, -1); nest(0, 3, -1); nest(0, 4, -1); nest(0, 5, -1); nest(1, 2, -1); nest(1, 3, -1)
        nest(1, 4, -1); nest(1, 5, -1); nest(2, 3, -1); nest(2, 4, -1); nest(2, 5, -1); nest(3, 4, -1); nest(3, 5, -1)
        nest(4, 5, -1)
        """;

    Promise16RightByWalking() {
        super("rightByWalking");
    }

    void itIsTheSameOverManyWays() {
        due(ALL_GROUPS_IN_EACH_OTHER, "join(1, 0, -1); right(1, 1) = 1; rightByWalking(1, 1) = 1");
    }

    void itIsTheSameIfAllOfManyWaysLeadToNobody() {
        due(ALL_GROUPS_IN_EACH_OTHER, "join(1, 0, -1); right(2, 1) = 0; rightByWalking(2, 1) = 0");
    }
}
