/** Promise 13: regress. */
public final class RegressTest extends KeepCases {
    private static final String TAKES =
        "The next n operations of a REGRESS (n 0 .. 200), as many as there are: how many.";
    private static final String STATES = "IllegalStateException: the repository is not BROKEN.";
    private static final String ANOTHER = "IllegalArgumentException: another n.";
    private static final String NO_MARK = "(If not even MARK was done, it is AT REST by none: any n.)";
    private static final String REGRESS = "To REGRESS is to do these: if SNAPSHOT was done, that is taken back; then, "
        + "from the last CHANGE on, its UPDATE, if it was done (the entry is in the mirror again what it was, or is not "
        + "there), then its INCREMENT; MARK at last: the repository is AT REST, as it was ahead of the session.";
    private static final String BREAKS =
        "It may break off behind each of these, too, and goes on from there.";
    private static final String OLD = "a 1 0 0 one; b 1 0 0 two";
    private static final String NEW = "a 1 0 0 ONE; c 2 7 7 -";

    public static void main(String[] args) {
        run(RegressTest.class);
    }

    private void isAsItWas() {
        same("state", x.about(0), AT_REST);
        same("operations done", x.about(2), 0);
        same("increments", x.about(7), 0);
        same("sessions", x.about(1), 1);
        same("time of the latest", x.session(0, 0), 1);
        same("the mirror", tree(MIRROR), OLD);
        same("the same session again", x.begin(2), 9);
    }

    private void takenBackFrom(int done) {
        brokenBehind(done);
        same("regress(200) behind " + done, x.regress(200), done);
        isAsItWas();
    }

    /** What there is behind the first operation that is taken back. */
    private void firstTakenBackFrom(int done, String mirror, int increments) {
        brokenBehind(done);
        same("regress(1)", x.regress(1), 1);
        same("state", x.about(0), BROKEN);
        same("operations done", x.about(2), done - 1);
        same("the mirror", tree(MIRROR), mirror);
        same("increments", x.about(7), increments);
    }

    private void isAnother(int n) {
        brokenBehind(4);
        refused(ARGUMENT, "regress(" + n + ")", () -> x.regress(n));
        same("regress(200)", x.regress(200), 4);
    }

    @Case(REGRESS)
    void behindMark() {
        takenBackFrom(1);
    }

    @Case(REGRESS)
    void behindAnIncrement() {
        takenBackFrom(2);
    }

    @Case(REGRESS)
    void behindAnUpdate() {
        takenBackFrom(3);
    }

    @Case(REGRESS)
    void behindTheLastIncrement() {
        takenBackFrom(6);
    }

    @Case(REGRESS)
    void behindTheLastUpdate() {
        takenBackFrom(7);
    }

    @Case(REGRESS)
    void behindSnapshot() {
        takenBackFrom(8);
    }

    @Case(REGRESS)
    void snapshotIsTakenBackFirst() {
        firstTakenBackFrom(8, NEW, 3);
    }

    @Case(REGRESS)
    void updateOfWhatCameIsTakenBack() {
        firstTakenBackFrom(7, "a 1 0 0 ONE", 3);
    }

    @Case(REGRESS)
    void incrementIsTakenBack() {
        firstTakenBackFrom(6, "a 1 0 0 ONE", 2);
    }

    @Case(REGRESS)
    void updateOfWhatWentIsTakenBack() {
        firstTakenBackFrom(5, "a 1 0 0 ONE; b 1 0 0 two", 2);
    }

    @Case(REGRESS)
    void updateOfWhatChangedIsTakenBack() {
        firstTakenBackFrom(3, OLD, 1);
    }

    @Case(REGRESS)
    void firstIncrementIsTakenBack() {
        firstTakenBackFrom(2, OLD, 0);
    }

    @Case(REGRESS)
    void markIsTakenBackAtLast() {
        brokenBehind(8);
        same("regress(7)", x.regress(7), 7);
        same("state", x.about(0), BROKEN);
        same("operations done", x.about(2), 1);
        same("regress(1)", x.regress(1), 1);
        isAsItWas();
    }

    @Case(BREAKS)
    void itGoesOnFromEachOperation() {
        brokenBehind(8);
        for (int left = 7; left >= 0; left--) {
            same("regress(1)", x.regress(1), 1);
            same("operations done", x.about(2), left);
            same("state", x.about(0), left == 0 ? AT_REST : BROKEN);
        }
        isAsItWas();
    }

    @Case(BREAKS)
    void itGoesOnInSeveralParts() {
        brokenBehind(8);
        same("regress(2)", x.regress(2), 2);
        same("regress(3)", x.regress(3), 3);
        same("regress(200)", x.regress(200), 3);
        isAsItWas();
    }

    @Case(REGRESS)
    void mirrorIsWhatItWasThoughTheSourceChanges() {
        brokenBehind(8);
        choose("a");
        write(0, "xxx");
        removeAt("c");
        file("d");
        same("regress(200)", x.regress(200), 8);
        same("the mirror", tree(MIRROR), OLD);
        same("the source", tree(SOURCE), "a 1 0 0 xxx; d 1 0 0 -");
        same("a, b and d differ", x.begin(2), 9);
    }

    @Case(REGRESS)
    void firstSessionIsTakenBackToNothing() {
        file("a");
        x.begin(0);
        x.step(4);
        x.crash();
        same("regress(200)", x.regress(200), 4);
        same("entries of the mirror", x.about(4), 0);
        same("sessions", x.about(1), 0);
        same("increments", x.about(7), 0);
    }

    @Case(REGRESS)
    void sessionWithoutChangesIsTakenBack() {
        x.begin(1);
        x.step(2);
        x.crash();
        same("regress(200)", x.regress(200), 2);
        same("state", x.about(0), AT_REST);
    }

    @Case(REGRESS)
    void sourceTapeAndResultAreLeftAlone() {
        threeChanges();
        x.step(7);
        x.crash();
        tape("t");
        String source = tree(SOURCE);
        x.regress(200);
        same("the source", tree(SOURCE), source);
        same("bytes on the tape", x.about(8), 1);
        same("entries of the result", x.about(5), 0);
    }

    @Case(TAKES)
    void nOf0TakesNothingBack() {
        brokenBehind(1);
        String before = told();
        same("regress(0)", x.regress(0), 0);
        same("all", told(), before);
    }

    @Case(TAKES)
    void oneFewerThanThereAreLeavesMark() {
        brokenBehind(5);
        same("regress(4)", x.regress(4), 4);
        same("state", x.about(0), BROKEN);
        same("operations done", x.about(2), 1);
    }

    @Case(TAKES)
    void asManyAsThereAre() {
        brokenBehind(5);
        same("regress(5)", x.regress(5), 5);
        same("state", x.about(0), AT_REST);
    }

    @Case(TAKES)
    void oneMoreThanThereAre() {
        brokenBehind(5);
        same("regress(6)", x.regress(6), 5);
        same("state", x.about(0), AT_REST);
    }

    @Case(TAKES)
    void nOf200Of242Takes200Back() {
        mostChanges("b", "a");
        x.step(200);
        x.step(42);
        x.crash();
        same("regress(200)", x.regress(200), 200);
        same("operations done", x.about(2), 42);
        same("state", x.about(0), BROKEN);
        same("regress(200)", x.regress(200), 42);
        same("state", x.about(0), AT_REST);
        same("entries of the mirror", x.about(4), 60);
        same("the first", path(MIRROR, 0), "a");
        same("the last", path(MIRROR, 59), "a/9");
    }

    @Case(NO_MARK)
    void withoutMarkNOf0IsAtRest() {
        brokenBehind(0);
        same("regress(0)", x.regress(0), 0);
        isAsItWas();
    }

    @Case(NO_MARK)
    void withoutMarkNOf1IsAtRest() {
        brokenBehind(0);
        same("regress(1)", x.regress(1), 0);
        isAsItWas();
    }

    @Case(NO_MARK)
    void withoutMarkNOf200IsAtRest() {
        brokenBehind(0);
        same("regress(200)", x.regress(200), 0);
        isAsItWas();
    }

    @Case(NO_MARK)
    void withoutMarkItIsBrokenAheadOfTheRegress() {
        brokenBehind(0);
        same("state", x.about(0), BROKEN);
        thrown(STATE, "restore, broken", () -> x.restore(1));
    }

    @Case(ANOTHER)
    void withoutMarkAnotherNIsRefused() {
        brokenBehind(0);
        refused(ARGUMENT, "regress(-1)", () -> x.regress(-1));
        refused(ARGUMENT, "regress(201)", () -> x.regress(201));
    }

    @Case(ANOTHER)
    void nOfMinus1IsRefused() {
        isAnother(-1);
    }

    @Case(ANOTHER)
    void nOf201IsRefused() {
        isAnother(201);
    }

    @Case(ANOTHER)
    void lowestNIsRefused() {
        isAnother(LOWEST);
    }

    @Case(ANOTHER)
    void highestNIsRefused() {
        isAnother(HIGHEST);
    }

    @Case(STATES)
    void newObjectIsRefused() {
        refused(STATE, "regress(1)", () -> x.regress(1));
        refused(STATE, "regress(0)", () -> x.regress(0));
    }

    @Case(STATES)
    void underWayIsRefused() {
        threeChanges();
        x.step(3);
        refused(STATE, "regress(1)", () -> x.regress(1));
    }

    @Case(STATES)
    void behindCommitIsRefused() {
        threeChanges();
        x.step(9);
        refused(STATE, "regress(1)", () -> x.regress(1));
    }

    @Case(STATES)
    void behindARegressIsRefused() {
        brokenBehind(3);
        x.regress(3);
        refused(STATE, "regress(0)", () -> x.regress(0));
    }

    @Case(STATES)
    void atRestComesAheadOfAnotherN() {
        refused(STATE, "regress(-1)", () -> x.regress(-1));
        refused(STATE, "regress(201)", () -> x.regress(201));
    }

    @Case(STATES)
    void underWayComesAheadOfAnotherN() {
        threeChanges();
        thrown(STATE, "regress(-1)", () -> x.regress(-1));
        thrown(STATE, "regress(201)", () -> x.regress(201));
    }
}
