/** Long runs of mixed calls, right ones and wrong ones: each answer is the one that Model gives. */
public final class ModelTest {
    private static final int RUNS = 1500;
    private static final int CALLS = 512;
    private static final int[] ODD = {-2, -1, 12, 31, 32, 33, 64, 999, 1000, Integer.MIN_VALUE, Integer.MAX_VALUE};

    private static final Check check = new Check("runs against the model");

    private static long seed = 20261119;

    public static void main(String[] args) {
        for (int run = 0; run < RUNS; run++) {
            oneRun(run);
        }
        check.end();
    }

    private static int below(int bound) {
        seed = seed * 6364136223846793005L + 1442695040888963407L;
        return (int) ((seed >>> 33) % bound);
    }

    private static int number(int bound) {
        return below(40) == 0 ? ODD[below(ODD.length)] : below(bound);
    }

    private static int end(Model model) {
        int kind = below(10);
        return kind < 4 ? -1 : kind < 9 ? model.day() + 1 + below(12) : model.day() - below(3);
    }

    private static void oneRun(int run) {
        FolderKeeper keeper = new FolderKeeper();
        Model model = new Model();
        // Small systems meet their edges sooner, large ones their limits.
        int accounts = 2 + below(9);
        int groups = 1 + below(6);
        for (int call = 0; call < CALLS; call++) {
            String told = "run " + run + ", call " + call + ": ";
            if (below(3) == 0) {
                change(keeper, model, accounts, groups, told);
            } else {
                look(keeper, model, accounts, groups, told);
            }
        }
    }

    private static void due(String told, Check.Call want, Check.Call got) {
        check.due(Check.answerOf(want), told, got);
    }

    private static void change(FolderKeeper x, Model m, int accounts, int groups, String told) {
        int a = number(accounts);
        int b = below(4) == 0 ? -1 : number(accounts);
        int g = number(groups);
        int h = number(groups);
        int f = number(12);
        int p = below(5) == 0 ? -1 : number(12);
        int r = below(20) == 0 ? 3 : number(3);
        int e = end(m);
        int d = below(8) == 0 ? number(120) : 1 + below(4);
        String all = told + "a" + a + " b" + b + " g" + g + " h" + h + " f" + f + " p" + p + " r" + r + " e" + e + " d" + d;
        switch (below(32)) {
            case 0: case 1: due(all + " addAccount", () -> m.addAccount(), () -> x.addAccount()); break;
            case 2: case 3: due(all + " addGroup", () -> m.addGroup(), () -> x.addGroup()); break;
            case 4: case 5: case 6: due(all + " setHeir", () -> m.setHeir(a, b), () -> x.setHeir(a, b)); break;
            case 7: case 8: case 9: due(all + " join", () -> m.join(a, g, e), () -> x.join(a, g, e)); break;
            case 10: case 11: case 12: due(all + " nest", () -> m.nest(g, h, e), () -> x.nest(g, h, e)); break;
            case 13: due(all + " drop", () -> m.drop(a, g), () -> x.drop(a, g)); break;
            case 14: case 15: case 16: due(all + " addFolder", () -> m.addFolder(a, p), () -> x.addFolder(a, p)); break;
            case 17: case 18: due(all + " shareWith", () -> m.share(f, false, a, r), () -> x.shareWith(f, a, r)); break;
            case 19: case 20: case 21:
                due(all + " shareWithGroup", () -> m.share(f, true, g, r), () -> x.shareWithGroup(f, g, r)); break;
            case 22: case 23: due(all + " setBroken", () -> m.setBroken(f, r == 1), () -> x.setBroken(f, r == 1)); break;
            case 24: due(all + " addRoom", () -> m.addRoom(g), () -> x.addRoom(g)); break;
            case 25: due(all + " leave", () -> m.leave(a), () -> x.leave(a)); break;
            case 26: case 27: due(all + " hold", () -> m.hold(f), () -> x.hold(f)); break;
            case 28: case 29: due(all + " release", () -> m.release(f), () -> x.release(f)); break;
            default: due(all + " pass", () -> m.pass(d), () -> x.pass(d)); break;
        }
    }

    private static void look(FolderKeeper x, Model m, int accounts, int groups, String told) {
        int a = number(accounts);
        int g = number(groups);
        int f = number(12);
        int r = number(5);
        int room = number(4);
        String all = told + "a" + a + " g" + g + " f" + f + " r" + r + " room" + room;
        switch (below(14)) {
            case 0: due(all + " isIn", () -> m.isIn(a, g), () -> x.isIn(a, g)); break;
            case 1: due(all + " memberships", () -> m.memberships(), () -> x.memberships()); break;
            case 2: due(all + " owner", () -> m.owner(f), () -> x.owner(f)); break;
            case 3: due(all + " right", () -> m.right(a, f), () -> x.right(a, f)); break;
            case 4: due(all + " rightByWalking", () -> m.right(a, f), () -> x.rightByWalking(a, f)); break;
            case 5: due(all + " holders", () -> m.holders(f, r), () -> x.holders(f, r)); break;
            case 6: due(all + " reads", () -> m.reads(a, room), () -> x.reads(a, room)); break;
            case 7: due(all + " readers", () -> m.readers(room), () -> x.readers(room)); break;
            case 8: case 9: due(all + " keeper", () -> m.keeper(f), () -> x.keeper(f)); break;
            case 10: due(all + " day", () -> m.day(), () -> x.day()); break;
            case 11: due(all + " active", () -> m.active(), () -> x.active()); break;
            case 12: due(all + " openShare", () -> m.openShare(), () -> x.openShare()); break;
            default: due(all + " meanOwned", () -> m.meanOwned(), () -> x.meanOwned()); break;
        }
    }
}
