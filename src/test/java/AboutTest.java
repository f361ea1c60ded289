/** Promise 19: about. */
public final class AboutTest extends KeepCases {
    private static final String STATES = "STATE (what = 0)";
    private static final String SESSIONS = "how many sessions (1)";
    private static final String DONE = "how many OPERATIONS of the one that is UNDER WAY or BROKEN are done and not "
        + "taken back (2; 0 AT REST)";
    private static final String ENTRIES = "entries of the source (3), the mirror (4), the result (5)";
    private static final String BYTES = "bytes of the source's content (6)";
    private static final String INCREMENTS = "how many INCREMENTS lead back from the mirror to the sessions that there "
        + "are, and those of one that is UNDER WAY or BROKEN (7)";
    private static final String TAPE = "bytes on the tape (8).";
    private static final String NOTHING = "NONE for another what.";

    public static void main(String[] args) {
        run(AboutTest.class);
    }

    private void isNone(int what) {
        same("about(" + what + ") of a new object", x.about(what), NONE);
        threeTrees();
        same("about(" + what + ")", x.about(what), NONE);
    }

    @Case(STATES)
    void statesOfASessionThatCounts() {
        same("at first", x.about(0), 0);
        x.begin(1);
        same("under way", x.about(0), 1);
        x.step(2);
        same("ahead of COMMIT", x.about(0), 1);
        x.step(1);
        same("behind COMMIT", x.about(0), 0);
    }

    @Case(STATES)
    void statesOfASessionThatBreaksOff() {
        x.begin(1);
        x.step(1);
        x.crash();
        same("broken", x.about(0), 2);
        x.regress(0);
        same("ahead of the last operation", x.about(0), 2);
        x.regress(1);
        same("at rest", x.about(0), 0);
    }

    @Case(SESSIONS)
    void sessionsFrom0To40() {
        same("sessions", x.about(1), 0);
        for (int i = 0; i < 40; i++) {
            keep(i);
            same("sessions", x.about(1), i + 1);
        }
    }

    @Case(SESSIONS)
    void sessionCountsFromCommitOn() {
        x.begin(1);
        x.step(2);
        same("ahead of COMMIT", x.about(1), 0);
        x.step(1);
        same("behind COMMIT", x.about(1), 1);
    }

    @Case(SESSIONS)
    void brokenSessionDoesNotCount() {
        brokenBehind(8);
        same("sessions", x.about(1), 1);
    }

    @Case(DONE)
    void doneIs0AtRest() {
        same("at first", x.about(2), 0);
        keep(1);
        same("behind a session", x.about(2), 0);
    }

    @Case(DONE)
    void doneIs0UnderWayAtFirst() {
        threeChanges();
        same("done", x.about(2), 0);
    }

    @Case(DONE)
    void doneIs242AtMost() {
        mostChanges("a", "b");
        x.step(200);
        x.step(42);
        same("under way", x.about(2), 242);
        x.crash();
        same("broken", x.about(2), 242);
        x.regress(200);
        same("not taken back", x.about(2), 42);
        x.regress(41);
        same("not taken back", x.about(2), 1);
        x.regress(1);
        same("at rest", x.about(2), 0);
    }

    @Case(ENTRIES)
    void entriesOf3Trees() {
        threeTrees();
        same("of the source", x.about(3), 3);
        same("of the mirror", x.about(4), 2);
        same("of the result", x.about(5), 1);
    }

    @Case(ENTRIES)
    void entriesOf3FullTrees() {
        sixty("d");
        keep(1);
        x.restore(1);
        same("of the source", x.about(3), 60);
        same("of the mirror", x.about(4), 60);
        same("of the result", x.about(5), 60);
        removeAt("d");
        keep(2);
        x.restore(2);
        same("of the source", x.about(3), 0);
        same("of the mirror", x.about(4), 0);
        same("of the result", x.about(5), 0);
    }

    @Case(ENTRIES)
    void entriesOfTheMirrorFollowEachUpdate() {
        threeChanges();
        int[] entries = {2, 2, 2, 2, 2, 1, 1, 2, 2};
        for (int done = 0; done < entries.length; done++) {
            same("behind " + done + " operations", x.about(4), entries[done]);
            x.step(1);
        }
    }

    @Case(BYTES)
    void bytesOfAllEntries() {
        fileOf("f", "abc");
        same("of a file", x.about(6), 3);
        directory("d");
        same("and a directory", x.about(6), 3);
        link("l");
        write(0, "de");
        same("and a link", x.about(6), 5);
        x.cut(1);
        same("behind a cut", x.about(6), 4);
        removeAt("f");
        same("behind a remove", x.about(6), 1);
    }

    @Case(BYTES)
    void bytesAre4000AtMost() {
        for (String path : new String[] {"f", "g"}) {
            file(path);
            fill(1500);
        }
        file("h");
        fill(1000);
        same("bytes", x.about(6), 4000);
    }

    @Case(BYTES)
    void bytesAreNotThoseOfTheMirror() {
        fileOf("f", "abc");
        keep(1);
        x.remove();
        same("bytes", x.about(6), 0);
    }

    @Case(INCREMENTS)
    void incrementsOfTheOldestLeadToNoSession() {
        file("a");
        file("b");
        x.begin(1);
        x.step(6);
        same("under way", x.about(7), 2);
        x.step(1);
        same("at rest", x.about(7), 0);
    }

    @Case(INCREMENTS)
    void incrementsOfAllSessionsButTheOldest() {
        threeSessions();
        same("of three sessions", x.about(7), 5);
        x.prune(20);
        same("of two", x.about(7), 2);
        x.prune(30);
        same("of one", x.about(7), 0);
    }

    @Case(INCREMENTS)
    void incrementsOfOneUnderWay() {
        threeChanges();
        int[] increments = {0, 0, 1, 1, 2, 2, 3, 3, 3, 3};
        for (int done = 0; done < increments.length; done++) {
            same("behind " + done + " operations", x.about(7), increments[done]);
            if (done < 9) {
                x.step(1);
            }
        }
    }

    @Case(INCREMENTS)
    void incrementsOfOneBrokenAreThoseNotTakenBack() {
        brokenBehind(8);
        int[] increments = {3, 3, 3, 2, 2, 1, 1, 0, 0};
        for (int back = 0; back < increments.length; back++) {
            same("behind " + back + " taken back", x.about(7), increments[back]);
            if (back < 8) {
                x.regress(1);
            }
        }
    }

    @Case(INCREMENTS)
    void incrementsOfSessionsAndOfOneUnderWay() {
        threeSessions();
        file("new");
        x.begin(40);
        same("none of it is done", x.about(7), 5);
        x.step(2);
        same("one of it is done", x.about(7), 6);
        x.crash();
        same("broken", x.about(7), 6);
        x.regress(1);
        same("it is taken back", x.about(7), 5);
    }

    @Case(INCREMENTS)
    void incrementsOf120Changes() {
        mostChanges("a", "b");
        x.step(200);
        x.step(40);
        same("under way", x.about(7), 120);
        x.step(3);
        same("at rest", x.about(7), 120);
    }

    @Case(TAPE)
    void bytesOnTheTapeFrom0To400() {
        same("at first", x.about(8), 0);
        zeros(1);
        same("one", x.about(8), 1);
        zeros(399);
        same("full", x.about(8), 400);
        x.choose();
        same("behind a choose", x.about(8), 0);
    }

    @Case(NOTHING)
    void whatOfMinus1IsNone() {
        isNone(-1);
    }

    @Case(NOTHING)
    void whatOf9IsNone() {
        isNone(9);
    }

    @Case(NOTHING)
    void lowestWhatIsNone() {
        isNone(LOWEST);
    }

    @Case(NOTHING)
    void highestWhatIsNone() {
        isNone(HIGHEST);
    }
}
