/** Promise 15: prune. */
public final class PruneTest extends KeepCases {
    private static final String FORGOTTEN =
        "Sessions ahead of the latest one whose time is not above that are forgotten: how many.";
    private static final String STATES = "IllegalStateException: the repository is not AT REST.";

    public static void main(String[] args) {
        run(PruneTest.class);
    }

    private void forgets(int time, int forgotten) {
        threeSessions();
        x.restore(10);
        tape("t");
        int[] increments = {5, 2, 0};
        String[] trees = {tree(SOURCE), tree(MIRROR), tree(RESULT)};
        same("prune(" + time + ")", x.prune(time), forgotten);
        same("sessions", x.about(1), 3 - forgotten);
        same("time of the oldest", x.session(0, 0), 10 * (forgotten + 1));
        same("changes to the oldest", x.session(0, 1), NONE);
        same("time of the latest", x.session(2 - forgotten, 0), 30);
        same("none behind it", x.session(3 - forgotten, 0), NONE);
        same("increments", x.about(7), increments[forgotten]);
        for (int tree = SOURCE; tree <= RESULT; tree++) {
            same("tree " + tree, tree(tree), trees[tree]);
        }
        same("bytes on the tape", x.about(8), 1);
    }

    @Case(FORGOTTEN)
    void lowestTime() {
        forgets(LOWEST, 0);
    }

    @Case(FORGOTTEN)
    void timeBelow0() {
        forgets(-1, 0);
    }

    @Case(FORGOTTEN)
    void timeJustBelowTheOldest() {
        forgets(9, 0);
    }

    @Case(FORGOTTEN)
    void timeOfTheOldest() {
        forgets(10, 0);
    }

    @Case(FORGOTTEN)
    void timeJustBelowTheSecond() {
        forgets(19, 0);
    }

    @Case(FORGOTTEN)
    void timeOfTheSecond() {
        forgets(20, 1);
    }

    @Case(FORGOTTEN)
    void timeJustBelowTheLatest() {
        forgets(29, 1);
    }

    @Case(FORGOTTEN)
    void timeOfTheLatest() {
        forgets(30, 2);
    }

    @Case(FORGOTTEN)
    void highestTime() {
        forgets(HIGHEST, 2);
    }

    @Case(FORGOTTEN)
    void withoutASessionItIs0() {
        same("prune(5)", x.prune(5), 0);
        same("prune(highest)", x.prune(HIGHEST), 0);
    }

    @Case(FORGOTTEN)
    void theOnlySessionStays() {
        keep(5);
        same("prune(5)", x.prune(5), 0);
        same("prune(highest)", x.prune(HIGHEST), 0);
        same("sessions", x.about(1), 1);
    }

    @Case(FORGOTTEN)
    void thirtyNineOf40() {
        sessions(40);
        same("prune(39)", x.prune(39), 39);
        same("sessions", x.about(1), 1);
        same("time of the oldest", x.session(0, 0), 39);
    }

    @Case(FORGOTTEN)
    void thirtyEightOf40() {
        sessions(40);
        same("prune(38)", x.prune(38), 38);
        same("sessions", x.about(1), 2);
        same("time of the oldest", x.session(0, 0), 38);
        same("time of the latest", x.session(1, 0), 39);
    }

    @Case(FORGOTTEN)
    void onceMoreItIs0() {
        threeSessions();
        x.prune(20);
        same("prune(20)", x.prune(20), 0);
        same("prune(10)", x.prune(10), 0);
        same("prune(30)", x.prune(30), 1);
    }

    @Case(FORGOTTEN)
    void treesOfTheOthersStay() {
        threeSessions();
        x.prune(25);
        same("restore(20)", x.restore(20), 3);
        same("the result", tree(RESULT), "a 1 1 1 ONE!; d 2 0 0 -; d/l 3 0 0 a");
        same("restore(30)", x.restore(30), 1);
        same("the result", tree(RESULT), "d 2 0 0 -");
    }

    @Case(FORGOTTEN)
    void sessionsGoOnBehindIt() {
        threeSessions();
        x.prune(30);
        file("new");
        same("operations", keep(31), 5);
        same("time of the latest", x.session(1, 0), 31);
        same("changes to it", x.session(1, 1), 1);
        same("increments", x.about(7), 1);
    }

    @Case(STATES)
    void underWayIsRefused() {
        threeSessions();
        x.begin(40);
        refused(STATE, "prune(30)", () -> x.prune(30));
    }

    @Case(STATES)
    void brokenIsRefused() {
        threeSessions();
        x.begin(40);
        x.step(1);
        x.crash();
        refused(STATE, "prune(30)", () -> x.prune(30));
        x.regress(1);
        same("prune(30), at rest", x.prune(30), 2);
    }

    @Case(STATES)
    void underWayIsRefusedThoughNoneWouldBeForgotten() {
        x.begin(1);
        refused(STATE, "prune(0)", () -> x.prune(0));
    }
}
