/** Promise 8: set. */
public final class SetTest extends KeepCases {
    private static final String SET = "The CHOSEN entry's MODE and TIME.";
    private static final String NONES = "IllegalArgumentException: one of them is none.";
    private static final String STATES =
        "IllegalStateException: a session is UNDER WAY, or nothing is chosen. (This first.)";

    public static void main(String[] args) {
        run(SetTest.class);
    }

    private void isSet(int mode, int time) {
        make("f", FILE, 7, 8);
        write(0, "abc");
        tape("t");
        x.set(mode, time);
        same("the source", tree(SOURCE), "f 1 " + mode + " " + time + " abc");
        same("bytes on the tape", x.about(8), 1);
    }

    private void isNone(int mode, int time) {
        make("f", FILE, 7, 8);
        tape("t");
        refused(ARGUMENT, "set(" + mode + ", " + time + ")", () -> x.set(mode, time));
        isChosen("f");
    }

    @Case(SET)
    void bothAreSet() {
        isSet(493, 12345);
    }

    @Case(SET)
    void onlyTheChosenOneIsSet() {
        file("a");
        file("b");
        file("c");
        choose("b");
        x.set(1, 2);
        same("the source", tree(SOURCE), "a 1 0 0 -; b 1 1 2 -; c 1 0 0 -");
    }

    @Case(SET)
    void directoryIsSetToo() {
        directory("d");
        x.set(1, 2);
        same("the source", tree(SOURCE), "d 2 1 2 -");
    }

    @Case(SET)
    void linkIsSetToo() {
        link("l");
        x.set(1, 2);
        same("the source", tree(SOURCE), "l 3 1 2 -");
    }

    @Case(SET)
    void mirrorAndResultAreLeftAlone() {
        file("f");
        keep(1);
        x.restore(1);
        x.set(1, 2);
        same("the mirror", tree(MIRROR), "f 1 0 0 -");
        same("the result", tree(RESULT), "f 1 0 0 -");
    }

    @Case(NONES)
    void modeOf0() {
        isSet(0, 1);
    }

    @Case(NONES)
    void modeOf4095() {
        isSet(4095, 1);
    }

    @Case(NONES)
    void timeOf0() {
        isSet(1, 0);
    }

    @Case(NONES)
    void highestTime() {
        isSet(1, HIGHEST);
    }

    @Case(NONES)
    void modeOfMinus1IsNone() {
        isNone(-1, 1);
    }

    @Case(NONES)
    void modeOf4096IsNone() {
        isNone(4096, 1);
    }

    @Case(NONES)
    void lowestModeIsNone() {
        isNone(LOWEST, 1);
    }

    @Case(NONES)
    void highestModeIsNone() {
        isNone(HIGHEST, 1);
    }

    @Case(NONES)
    void timeOfMinus1IsNone() {
        isNone(1, -1);
    }

    @Case(NONES)
    void lowestTimeIsNone() {
        isNone(1, LOWEST);
    }

    @Case(NONES)
    void bothAreNone() {
        isNone(-1, -1);
    }

    @Case(STATES)
    void underWayIsRefused() {
        file("f");
        x.begin(1);
        refused(STATE, "set, under way", () -> x.set(1, 2));
    }

    @Case(STATES)
    void nothingChosenIsRefused() {
        file("f");
        choose("g");
        refused(STATE, "set with nothing chosen", () -> x.set(1, 2));
    }

    @Case(STATES)
    void brokenIsNotUnderWay() {
        file("f");
        x.begin(1);
        x.step(3);
        x.crash();
        x.set(1, 2);
        same("the source", tree(SOURCE), "f 1 1 2 -");
        same("the mirror", tree(MIRROR), "f 1 0 0 -");
    }

    @Case(STATES)
    void underWayComesAheadOfWhatIsNone() {
        file("f");
        x.begin(1);
        refused(STATE, "set(-1, 0), under way", () -> x.set(-1, 0));
        refused(STATE, "set(0, -1), under way", () -> x.set(0, -1));
    }

    @Case(STATES)
    void nothingChosenComesAheadOfWhatIsNone() {
        refused(STATE, "set(4096, 0) with nothing chosen", () -> x.set(4096, 0));
        refused(STATE, "set(0, -1) with nothing chosen", () -> x.set(0, -1));
    }
}
