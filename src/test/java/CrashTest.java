/** Promise 12: crash. */
public final class CrashTest extends KeepCases {
    private static final String BREAKS =
        "The session that is UNDER WAY breaks off: the repository is BROKEN.";
    private static final String STATES = "IllegalStateException: none is.";

    public static void main(String[] args) {
        run(CrashTest.class);
    }

    private void breaksBehind(int done) {
        threeChanges();
        x.step(done);
        tape("t");
        String before = told();
        x.crash();
        same("state", x.about(0), BROKEN);
        same("operations done", x.about(2), done);
        // The state is what told() begins with.
        same("all but the state", told().substring(1), before.substring(1));
        same("bytes on the tape", x.about(8), 1);
    }

    @Case(BREAKS)
    void aheadOfMark() {
        breaksBehind(0);
    }

    @Case(BREAKS)
    void behindMark() {
        breaksBehind(1);
    }

    @Case(BREAKS)
    void behindAnIncrement() {
        breaksBehind(2);
    }

    @Case(BREAKS)
    void behindAnUpdate() {
        breaksBehind(3);
    }

    @Case(BREAKS)
    void behindTheLastIncrement() {
        breaksBehind(6);
    }

    @Case(BREAKS)
    void behindTheLastUpdate() {
        breaksBehind(7);
    }

    @Case(BREAKS)
    void behindSnapshot() {
        breaksBehind(8);
    }

    @Case(STATES)
    void behindCommitIsRefused() {
        threeChanges();
        x.step(9);
        refused(STATE, "crash", () -> x.crash());
    }

    @Case(STATES)
    void newObjectIsRefused() {
        refused(STATE, "crash", () -> x.crash());
    }

    @Case(STATES)
    void brokenIsRefused() {
        brokenBehind(3);
        refused(STATE, "crash", () -> x.crash());
    }

    @Case(STATES)
    void brokenInTheMidstOfARegressIsRefused() {
        brokenBehind(5);
        x.regress(2);
        refused(STATE, "crash", () -> x.crash());
    }

    @Case(STATES)
    void behindARegressIsRefused() {
        brokenBehind(3);
        x.regress(3);
        refused(STATE, "crash", () -> x.crash());
    }
}
