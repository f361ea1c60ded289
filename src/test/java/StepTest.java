/** Promise 11: step. */
public final class StepTest extends KeepCases {
    private static final String DOES = "The session that is UNDER WAY does its next n OPERATIONS (n 0 .. 200), as many "
        + "as there are: how many.";
    private static final String STATES = "IllegalStateException: none is.";
    private static final String ANOTHER = "IllegalArgumentException: another n.";
    private static final String OPERATIONS = "A session does, one after the other, these OPERATIONS: MARK; for each "
        + "CHANGE, these in order of their paths: its INCREMENT (which leads back), then its UPDATE in the mirror; "
        + "SNAPSHOT (of what is told of all entries); COMMIT: it counts, the repository is AT REST.";
    private static final String OLD = "a 1 0 0 one; b 1 0 0 two";
    private static final String NEW = "a 1 0 0 ONE; c 2 7 7 -";

    public static void main(String[] args) {
        run(StepTest.class);
    }

    private void isAnother(int n) {
        threeChanges();
        x.step(2);
        refused(ARGUMENT, "step(" + n + ")", () -> x.step(n));
        same("step(200)", x.step(200), 7);
    }

    private void behind(int done, String mirror, int increments) {
        threeChanges();
        same("step", x.step(done), done);
        same("the mirror", tree(MIRROR), mirror);
        same("increments", x.about(7), increments);
        same("operations done", x.about(2), done);
        same("state", x.about(0), UNDER_WAY);
        same("sessions", x.about(1), 1);
    }

    @Case(OPERATIONS)
    void operation1IsMark() {
        behind(1, OLD, 0);
    }

    @Case(OPERATIONS)
    void operation2IsTheFirstIncrement() {
        behind(2, OLD, 1);
    }

    @Case(OPERATIONS)
    void operation3IsTheFirstUpdate() {
        behind(3, "a 1 0 0 ONE; b 1 0 0 two", 1);
    }

    @Case(OPERATIONS)
    void operation4IsTheSecondIncrement() {
        behind(4, "a 1 0 0 ONE; b 1 0 0 two", 2);
    }

    @Case(OPERATIONS)
    void operation5IsTheSecondUpdate() {
        behind(5, "a 1 0 0 ONE", 2);
    }

    @Case(OPERATIONS)
    void operation6IsTheThirdIncrement() {
        behind(6, "a 1 0 0 ONE", 3);
    }

    @Case(OPERATIONS)
    void operation7IsTheThirdUpdate() {
        behind(7, NEW, 3);
    }

    @Case(OPERATIONS)
    void operation8IsSnapshot() {
        behind(8, NEW, 3);
    }

    @Case(OPERATIONS)
    void operation9IsCommit() {
        threeChanges();
        x.step(8);
        same("step(1)", x.step(1), 1);
        same("state", x.about(0), AT_REST);
        same("operations done", x.about(2), 0);
        same("sessions", x.about(1), 2);
        same("time of the latest", x.session(1, 0), 2);
        same("changes to the latest", x.session(1, 1), 3);
        same("the mirror", tree(MIRROR), NEW);
        same("increments", x.about(7), 3);
    }

    @Case(OPERATIONS)
    void updatesAreInOrderOfThePaths() {
        for (String path : new String[] {"a-", "b\u00ff", "b\u007f"}) {
            file(path);
        }
        directory("a");
        file("a/z");
        x.begin(1);
        x.step(1);
        for (String mirror : new String[] {"a", "a a/z", "a a/z a-", "a a/z a- b\u007f", "a a/z a- b\u007f b\u00ff"}) {
            x.step(2);
            same("the mirror", paths(MIRROR), mirror);
        }
    }

    @Case(OPERATIONS)
    void withoutChangesSnapshotIsBehindMark() {
        x.begin(1);
        for (int done = 0; done < 3; done++) {
            same("operations done", x.about(2), done);
            same("increments", x.about(7), 0);
            same("state", x.about(0), UNDER_WAY);
            x.step(1);
        }
        same("state", x.about(0), AT_REST);
        same("sessions", x.about(1), 1);
    }

    @Case(DOES)
    void nOf0DoesNothing() {
        threeChanges();
        String before = told();
        same("step(0)", x.step(0), 0);
        same("all", told(), before);
    }

    @Case(DOES)
    void nOf0AheadOfCommitDoesNothing() {
        threeChanges();
        x.step(8);
        same("step(0)", x.step(0), 0);
        same("state", x.about(0), UNDER_WAY);
    }

    @Case(DOES)
    void oneFewerThanThereAreLeavesCommit() {
        threeChanges();
        same("step(8)", x.step(8), 8);
        same("state", x.about(0), UNDER_WAY);
        same("operations done", x.about(2), 8);
    }

    @Case(DOES)
    void asManyAsThereAre() {
        threeChanges();
        same("step(9)", x.step(9), 9);
        same("state", x.about(0), AT_REST);
    }

    @Case(DOES)
    void oneMoreThanThereAre() {
        threeChanges();
        same("step(10)", x.step(10), 9);
        same("state", x.about(0), AT_REST);
        same("sessions", x.about(1), 2);
    }

    @Case(DOES)
    void restOfThem() {
        threeChanges();
        x.step(4);
        same("step(200)", x.step(200), 5);
    }

    @Case(DOES)
    void nOf200Of243Does200() {
        mostChanges("a", "b");
        same("step(200)", x.step(200), 200);
        same("operations done", x.about(2), 200);
        same("state", x.about(0), UNDER_WAY);
        same("step(200)", x.step(200), 43);
        same("state", x.about(0), AT_REST);
        same("entries of the mirror", x.about(4), 60);
    }

    @Case(DOES)
    void mirrorHasAllThatComesAndAllThatGoes() {
        mostChanges("a", "b");
        same("step(121)", x.step(121), 121);
        same("entries of the mirror", x.about(4), 120);
        same("its first entry", x.entry(MIRROR, 0, 0), DIRECTORY);
        same("its last entry", x.entry(MIRROR, 119, 0), FILE);
        same("none behind it", x.entry(MIRROR, 120, 0), NONE);
        x.step(122);
        same("entries of the mirror", x.about(4), 60);
        same("differ()", x.differ(), 0);
    }

    @Case(DOES)
    void mirrorIsEmptyOnceAllThatGoesWent() {
        mostChanges("b", "a");
        x.step(121);
        same("entries of the mirror", x.about(4), 0);
        x.step(122);
        same("entries of the mirror", x.about(4), 60);
    }

    @Case(ANOTHER)
    void nOfMinus1IsRefused() {
        isAnother(-1);
    }

    @Case(ANOTHER)
    void nOf201IsRefused() {
        isAnother(201);
    }

    @Case(ANOTHER)
    void lowestNIsRefused() {
        isAnother(LOWEST);
    }

    @Case(ANOTHER)
    void highestNIsRefused() {
        isAnother(HIGHEST);
    }

    @Case(STATES)
    void newObjectIsRefused() {
        refused(STATE, "step(1)", () -> x.step(1));
    }

    @Case(STATES)
    void atRestIsRefused() {
        file("f");
        keep(1);
        refused(STATE, "step(1)", () -> x.step(1));
        refused(STATE, "step(0)", () -> x.step(0));
    }

    @Case(STATES)
    void brokenIsRefused() {
        brokenBehind(3);
        refused(STATE, "step(1)", () -> x.step(1));
    }

    @Case(STATES)
    void atRestComesAheadOfAnotherN() {
        refused(STATE, "step(-1)", () -> x.step(-1));
        refused(STATE, "step(201)", () -> x.step(201));
    }

    @Case(STATES)
    void brokenComesAheadOfAnotherN() {
        brokenBehind(3);
        thrown(STATE, "step(-1)", () -> x.step(-1));
        thrown(STATE, "step(201)", () -> x.step(201));
    }
}
