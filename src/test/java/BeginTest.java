/** Promise 10: begin. */
public final class BeginTest extends KeepCases {
    private static final String BEGUN =
        "A session of a time is UNDER WAY, none of its OPERATIONS is done: how many it will do.";
    private static final String TIME =
        "IllegalArgumentException: the time is below 0 or not above that of the latest session.";
    private static final String STATES =
        "IllegalStateException: the repository is not AT REST, or there are 40 sessions. (This first.)";

    public static void main(String[] args) {
        run(BeginTest.class);
    }

    private void isNoTime(int time) {
        file("f");
        keep(10);
        tape("t");
        refused(ARGUMENT, "begin(" + time + ")", () -> x.begin(time));
    }

    @Case(BEGUN)
    void itIsUnderWayWithNothingDone() {
        file("f");
        x.begin(5);
        same("state", x.about(0), UNDER_WAY);
        same("operations done", x.about(2), 0);
        same("sessions", x.about(1), 0);
        same("entries of the mirror", x.about(4), 0);
        same("increments", x.about(7), 0);
    }

    @Case(BEGUN)
    void nothingIsDoneOfALaterSessionEither() {
        file("f");
        keep(1);
        file("g");
        x.begin(2);
        same("operations done", x.about(2), 0);
        same("the mirror", paths(MIRROR), "f");
    }

    @Case(BEGUN)
    void nothingIsDoneOfOneBehindARegress() {
        brokenBehind(5);
        x.regress(200);
        same("begin", x.begin(2), 9);
        same("operations done", x.about(2), 0);
        same("state", x.about(0), UNDER_WAY);
    }

    @Case(BEGUN)
    void withoutChangesItWillDo3() {
        same("begin", x.begin(1), 3);
    }

    @Case(BEGUN)
    void withoutChangesBehindASessionItWillDo3() {
        file("f");
        keep(1);
        same("begin", x.begin(2), 3);
    }

    @Case(BEGUN)
    void withOneChangeItWillDo5() {
        file("f");
        same("begin", x.begin(1), 5);
    }

    @Case(BEGUN)
    void with60ChangesItWillDo123() {
        sixty("d");
        same("begin", x.begin(1), 123);
    }

    @Case(BEGUN)
    void with120ChangesItWillDo243() {
        sixty("b");
        keep(1);
        removeAt("b");
        sixty("a");
        same("begin", x.begin(2), 243);
    }

    @Case(BEGUN)
    void tapeIsLeftAlone() {
        tape("t");
        x.begin(1);
        same("bytes on the tape", x.about(8), 1);
    }

    @Case(TIME)
    void timeOf0IsTaken() {
        x.begin(0);
        x.step(200);
        same("its time", x.session(0, 0), 0);
    }

    @Case(TIME)
    void timeOfMinus1IsRefused() {
        refused(ARGUMENT, "begin(-1)", () -> x.begin(-1));
    }

    @Case(TIME)
    void lowestTimeIsRefused() {
        refused(ARGUMENT, "begin(lowest)", () -> x.begin(LOWEST));
    }

    @Case(TIME)
    void highestTimeIsTaken() {
        x.begin(HIGHEST);
        x.step(200);
        same("its time", x.session(0, 0), HIGHEST);
    }

    @Case(TIME)
    void noTimeIsAboveTheHighest() {
        keep(HIGHEST);
        refused(ARGUMENT, "begin(highest)", () -> x.begin(HIGHEST));
        refused(ARGUMENT, "begin(0)", () -> x.begin(0));
    }

    @Case(TIME)
    void timeJustAboveTheLatestIsTaken() {
        keep(10);
        same("begin(11)", x.begin(11), 3);
    }

    @Case(TIME)
    void timeOfTheLatestIsRefused() {
        isNoTime(10);
    }

    @Case(TIME)
    void timeBelowTheLatestIsRefused() {
        isNoTime(9);
    }

    @Case(TIME)
    void timeBelow0BehindASessionIsRefused() {
        isNoTime(-1);
    }

    @Case(TIME)
    void latestIsNotTheOldest() {
        keep(10);
        keep(20);
        refused(ARGUMENT, "begin(15)", () -> x.begin(15));
        refused(ARGUMENT, "begin(20)", () -> x.begin(20));
        same("begin(21)", x.begin(21), 3);
    }

    @Case(TIME)
    void latestStaysTheLatestBehindAPrune() {
        keep(10);
        keep(20);
        x.prune(20);
        refused(ARGUMENT, "begin(20)", () -> x.begin(20));
        same("begin(21)", x.begin(21), 3);
    }

    @Case(TIME)
    void sessionThatWasTakenBackIsNotTheLatest() {
        keep(10);
        x.begin(30);
        x.step(1);
        x.crash();
        x.regress(1);
        same("begin(11)", x.begin(11), 3);
    }

    @Case(TIME)
    void takenBackFirstSessionLeavesAnyTime() {
        x.begin(30);
        x.crash();
        x.regress(0);
        same("begin(0)", x.begin(0), 3);
    }

    @Case(STATES)
    void underWayIsRefused() {
        file("f");
        x.begin(5);
        x.step(2);
        refused(STATE, "begin(6), under way", () -> x.begin(6));
        same("the rest of it", x.step(200), 3);
        same("its time", x.session(0, 0), 5);
    }

    @Case(STATES)
    void brokenIsRefused() {
        brokenBehind(3);
        refused(STATE, "begin(3), broken", () -> x.begin(3));
        same("regress(200)", x.regress(200), 3);
    }

    @Case(STATES)
    void brokenWithNothingDoneIsRefused() {
        brokenBehind(0);
        refused(STATE, "begin(3), broken", () -> x.begin(3));
    }

    @Case(STATES)
    void fortiethSessionIsTaken() {
        sessions(39);
        same("begin(39)", x.begin(39), 3);
        x.step(200);
        same("sessions", x.about(1), 40);
        same("the latest", x.session(39, 0), 39);
    }

    @Case(STATES)
    void fortyFirstSessionIsRefused() {
        sessions(40);
        refused(STATE, "begin(40)", () -> x.begin(40));
    }

    @Case(STATES)
    void fortyFirstSessionIsTakenBehindAPrune() {
        sessions(40);
        x.prune(1);
        same("begin(40)", x.begin(40), 3);
        x.step(200);
        same("sessions", x.about(1), 40);
        same("the oldest", x.session(0, 0), 1);
        same("the latest", x.session(39, 0), 40);
        thrown(STATE, "begin(41)", () -> x.begin(41));
    }

    @Case(STATES)
    void underWayComesAheadOfTheTime() {
        x.begin(5);
        refused(STATE, "begin(-1), under way", () -> x.begin(-1));
    }

    @Case(STATES)
    void brokenComesAheadOfTheTime() {
        keep(5);
        x.begin(6);
        x.crash();
        refused(STATE, "begin(-1), broken", () -> x.begin(-1));
        refused(STATE, "begin(5), broken", () -> x.begin(5));
    }

    @Case(STATES)
    void fortySessionsComeAheadOfTheTime() {
        sessions(40);
        thrown(STATE, "begin(-1)", () -> x.begin(-1));
        thrown(STATE, "begin(39)", () -> x.begin(39));
        same("state", x.about(0), AT_REST);
    }
}
