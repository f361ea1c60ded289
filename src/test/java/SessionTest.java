/** Promise 20: session. */
public final class SessionTest extends KeepCases {
    private static final String TOLD = "Of session i (0 the oldest one that there is): its time (what = 0), how many "
        + "CHANGES lead from the one before to it (1; NONE of the oldest one).";
    private static final String NOTHING = "NONE if there is none such, or for another what.";

    public static void main(String[] args) {
        run(SessionTest.class);
    }

    private void told(int i, int time, int changes) {
        same("time of session " + i, x.session(i, 0), time);
        same("changes to session " + i, x.session(i, 1), changes);
    }

    private void isNoSession(int i) {
        threeSessions();
        told(i, NONE, NONE);
    }

    private void isNoWhat(int what) {
        threeSessions();
        for (int i = 0; i < 3; i++) {
            same("session(" + i + ", " + what + ")", x.session(i, what), NONE);
        }
    }

    @Case(TOLD)
    void timesAndChanges() {
        threeSessions();
        told(1, 20, 3);
        told(2, 30, 2);
    }

    @Case(TOLD)
    void changesToTheOldestAreNone() {
        threeSessions();
        told(0, 10, NONE);
    }

    @Case(TOLD)
    void changesToTheOldestAreNoneBehindAPrune() {
        threeSessions();
        x.prune(25);
        told(0, 20, NONE);
        told(1, 30, 2);
        told(2, NONE, NONE);
    }

    @Case(TOLD)
    void sessionWithoutChangesHas0() {
        keep(1);
        keep(2);
        told(0, 1, NONE);
        told(1, 2, 0);
    }

    @Case(TOLD)
    void sessionOf120Changes() {
        mostChanges("a", "b");
        x.step(200);
        x.step(43);
        told(1, 2, 120);
    }

    @Case(TOLD)
    void timesOf0AndTheHighest() {
        keep(0);
        keep(HIGHEST);
        told(0, 0, NONE);
        told(1, HIGHEST, 0);
    }

    @Case(TOLD)
    void lastOf40() {
        sessions(40);
        told(39, 39, 0);
        told(40, NONE, NONE);
    }

    @Case(NOTHING)
    void withoutASessionItIsNone() {
        told(0, NONE, NONE);
    }

    @Case(NOTHING)
    void sessionOfMinus1IsNone() {
        isNoSession(-1);
    }

    @Case(NOTHING)
    void sessionBehindTheLatestIsNone() {
        isNoSession(3);
    }

    @Case(NOTHING)
    void lowestSessionIsNone() {
        isNoSession(LOWEST);
    }

    @Case(NOTHING)
    void highestSessionIsNone() {
        isNoSession(HIGHEST);
    }

    @Case(NOTHING)
    void sessionUnderWayIsNone() {
        threeChanges();
        x.step(8);
        told(1, NONE, NONE);
    }

    @Case(NOTHING)
    void brokenSessionIsNone() {
        brokenBehind(8);
        told(1, NONE, NONE);
        x.regress(200);
        told(1, NONE, NONE);
        told(0, 1, NONE);
    }

    @Case(NOTHING)
    void whatOfMinus1IsNone() {
        isNoWhat(-1);
    }

    @Case(NOTHING)
    void whatOf2IsNone() {
        isNoWhat(2);
    }

    @Case(NOTHING)
    void lowestWhatIsNone() {
        isNoWhat(LOWEST);
    }

    @Case(NOTHING)
    void highestWhatIsNone() {
        isNoWhat(HIGHEST);
    }
}
