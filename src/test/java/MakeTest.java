/** Promise 4: make. What is a path, TermsTest asks. */
public final class MakeTest extends KeepCases {
    private static final String COMES = "An entry of the path that is on the tape (which is empty then) comes to the "
        + "source, without content, and is CHOSEN: how many entries there are.";
    private static final String ARGUMENTS =
        "IllegalArgumentException: kind, mode or time is none, or that is no path.";
    private static final String STATES = "IllegalStateException: a session is UNDER WAY (this first, the tape stays); "
        + "it is there; its directory is not; there are 60.";
    private static final String KINDS =
        "a KIND (1 FILE, 2 DIRECTORY, 3 LINK), a MODE 0 .. 4095, a TIME 0 and above";

    public static void main(String[] args) {
        run(MakeTest.class);
    }

    private void isTaken(int kind, int mode, int time) {
        same("entries", make("n", kind, mode, time), 1);
        same("the source", tree(SOURCE), "n " + kind + " " + mode + " " + time + " -");
    }

    private void isNone(int kind, int mode, int time) {
        file("m");
        refusedWithTape(ARGUMENT, "make of n", () -> make("n", kind, mode, time));
        isChosen("m");
    }

    private void isRefused(String path) {
        refusedWithTape(STATE, "make of " + path, () -> file(path));
    }

    @Case(COMES)
    void itAnswersHowManyEntriesThereAre() {
        same("make of d", directory("d"), 1);
        same("make of d/f", file("d/f"), 2);
        same("make of a", link("a"), 3);
        same("the source", paths(SOURCE), "a d d/f");
    }

    @Case(COMES)
    void tapeIsEmptyThen() {
        file("f");
        same("bytes on the tape", x.about(8), 0);
    }

    @Case(COMES)
    void itComesWithoutContent() {
        fileOf("a", "abc");
        file("b");
        same("the source", tree(SOURCE), "a 1 0 0 abc; b 1 0 0 -");
    }

    @Case(COMES)
    void itComesWithoutTheContentOfOneThatWent() {
        fileOf("a", "abc");
        x.remove();
        file("a");
        same("the source", tree(SOURCE), "a 1 0 0 -");
        same("bytes of content", x.about(6), 0);
    }

    @Case(COMES)
    void itIsChosenThoughItIsNotTheLastInOrder() {
        file("m");
        file("a");
        isChosen("a");
    }

    @Case(COMES)
    void mirrorAndResultAreLeftAlone() {
        file("a");
        keep(1);
        x.restore(1);
        file("b");
        same("the mirror", paths(MIRROR), "a");
        same("the result", paths(RESULT), "a");
    }

    @Case(KINDS)
    void kindOf1IsTaken() {
        isTaken(1, 5, 6);
    }

    @Case(KINDS)
    void kindOf2IsTaken() {
        isTaken(2, 5, 6);
    }

    @Case(KINDS)
    void kindOf3IsTaken() {
        isTaken(3, 5, 6);
    }

    @Case(KINDS)
    void modeOf0IsTaken() {
        isTaken(FILE, 0, 6);
    }

    @Case(KINDS)
    void modeOf4095IsTaken() {
        isTaken(FILE, 4095, 6);
    }

    @Case(KINDS)
    void timeOf0IsTaken() {
        isTaken(FILE, 5, 0);
    }

    @Case(KINDS)
    void highestTimeIsTaken() {
        isTaken(FILE, 5, HIGHEST);
    }

    @Case(ARGUMENTS)
    void kindOf0IsNone() {
        isNone(0, 0, 0);
    }

    @Case(ARGUMENTS)
    void kindOf4IsNone() {
        isNone(4, 0, 0);
    }

    @Case(ARGUMENTS)
    void kindOfMinus1IsNone() {
        isNone(-1, 0, 0);
    }

    @Case(ARGUMENTS)
    void lowestKindIsNone() {
        isNone(LOWEST, 0, 0);
    }

    @Case(ARGUMENTS)
    void highestKindIsNone() {
        isNone(HIGHEST, 0, 0);
    }

    @Case(ARGUMENTS)
    void modeOfMinus1IsNone() {
        isNone(FILE, -1, 0);
    }

    @Case(ARGUMENTS)
    void modeOf4096IsNone() {
        isNone(FILE, 4096, 0);
    }

    @Case(ARGUMENTS)
    void lowestModeIsNone() {
        isNone(FILE, LOWEST, 0);
    }

    @Case(ARGUMENTS)
    void highestModeIsNone() {
        isNone(FILE, HIGHEST, 0);
    }

    @Case(ARGUMENTS)
    void timeOfMinus1IsNone() {
        isNone(FILE, 0, -1);
    }

    @Case(ARGUMENTS)
    void lowestTimeIsNone() {
        isNone(FILE, 0, LOWEST);
    }

    @Case(ARGUMENTS)
    void noPathIsRefusedAndTheChoiceStays() {
        file("m");
        refusedWithTape(ARGUMENT, "make of ..", () -> file(".."));
        isChosen("m");
    }

    @Case(ARGUMENTS)
    void emptyTapeIsNoPath() {
        file("m");
        refusedWithTape(ARGUMENT, "make of an empty tape", () -> x.make(FILE, 0, 0));
        isChosen("m");
    }

    @Case(ARGUMENTS)
    void fullTapeIsNoPath() {
        refusedWithTape(ARGUMENT, "make of 400 bytes", () -> file("abcd/".repeat(80)));
    }

    @Case(STATES)
    void underWayTheTapeStays() {
        x.begin(1);
        tape("f");
        refused(STATE, "make, under way", () -> x.make(FILE, 0, 0));
        x.step(200);
        same("make of what stayed", x.make(FILE, 0, 0), 1);
        same("the source", paths(SOURCE), "f");
    }

    @Case(STATES)
    void underWayComesAheadOfAWrongKindModeOrTime() {
        x.begin(1);
        tape("f");
        refused(STATE, "a wrong kind", () -> x.make(0, 0, 0));
        refused(STATE, "a wrong mode", () -> x.make(FILE, 4096, 0));
        refused(STATE, "a wrong time", () -> x.make(FILE, 0, -1));
    }

    @Case(STATES)
    void underWayComesAheadOfNoPath() {
        x.begin(1);
        refused(STATE, "an empty tape", () -> x.make(FILE, 0, 0));
        tape("..");
        refused(STATE, "no path", () -> x.make(FILE, 0, 0));
    }

    @Case(STATES)
    void underWayTheTapeStaysWhenItIsThere() {
        file("f");
        x.begin(1);
        tape("f");
        refused(STATE, "it is there", () -> x.make(FILE, 0, 0));
    }

    @Case(STATES)
    void underWayTheTapeStaysWhenItsDirectoryIsNot() {
        x.begin(1);
        tape("d/f");
        refused(STATE, "its directory is not", () -> x.make(FILE, 0, 0));
    }

    @Case(STATES)
    void underWayTheChoiceStays() {
        file("f");
        x.begin(1);
        tape("g");
        thrown(STATE, "make, under way", () -> x.make(FILE, 0, 0));
        x.step(200);
        isChosen("f");
    }

    @Case(STATES)
    void underWayBehindEachOperation() {
        file("f");
        x.begin(1);
        tape("g");
        for (int done = 0; done < 5; done++) {
            thrown(STATE, "make behind " + done + " operations", () -> x.make(FILE, 0, 0));
            x.step(1);
        }
        same("make behind COMMIT", x.make(FILE, 0, 0), 2);
    }

    @Case(STATES)
    void brokenIsNotUnderWay() {
        file("f");
        x.begin(1);
        x.step(2);
        x.crash();
        same("make while broken", file("g"), 2);
        isChosen("g");
    }

    @Case(STATES)
    void itIsThere() {
        file("n");
        file("m");
        isRefused("n");
        isChosen("m");
    }

    @Case(STATES)
    void itIsThereWithAnotherKind() {
        make("n", LINK, 3, 4);
        write(0, "abc");
        isRefused("n");
        same("the source", tree(SOURCE), "n 3 3 4 abc");
    }

    @Case(STATES)
    void itIsThereInADirectory() {
        directory("d");
        file("d/n");
        isRefused("d/n");
    }

    @Case(STATES)
    void whatOnlyTheMirrorHasIsNotThere() {
        file("n");
        keep(1);
        x.remove();
        same("make of n", file("n"), 1);
    }

    @Case(STATES)
    void itsDirectoryIsNotThere() {
        file("m");
        isRefused("d/f");
        isChosen("m");
    }

    @Case(STATES)
    void itsDirectoryIsAFile() {
        file("f");
        isRefused("f/a");
    }

    @Case(STATES)
    void itsDirectoryIsALink() {
        link("l");
        isRefused("l/a");
    }

    @Case(STATES)
    void onlyTheDirectorysDirectoryIsThere() {
        directory("d");
        isRefused("d/e/a");
    }

    @Case(STATES)
    void directoryOfAPathThatOnlyBeginsAlikeIsNotIts() {
        directory("d");
        directory("de");
        isRefused("dd/a");
        isRefused("def/a");
    }

    @Case(STATES)
    void itsDirectoryIsOnlyInTheMirror() {
        directory("d");
        keep(1);
        x.remove();
        isRefused("d/a");
    }

    @Case(STATES)
    void sixtiethEntryComes() {
        directory("d");
        files("d", 58);
        same("make", file("last"), 60);
        same("entries", x.about(3), 60);
    }

    @Case(STATES)
    void sixtyFirstEntryIsRefused() {
        sixty("d");
        thrown(STATE, "make", () -> file("last"));
        same("entries", x.about(3), 60);
        same("bytes on the tape", x.about(8), 0);
        same("what was chosen is so still", x.remove(), 1);
        same("the entry that went", choose("d/59"), NONE);
    }

    @Case(STATES)
    void sixtyFirstEntryComesBehindARemove() {
        sixty("d");
        removeAt("d/7");
        same("make", file("last"), 60);
    }

    @Case(ARGUMENTS)
    void wrongKindComesAheadOfItIsThere() {
        file("n");
        refusedWithTape(ARGUMENT, "a wrong kind", () -> make("n", 4, 0, 0));
        refusedWithTape(ARGUMENT, "a wrong mode", () -> make("n", FILE, 4096, 0));
        refusedWithTape(ARGUMENT, "a wrong time", () -> make("n", FILE, 0, -1));
    }

    @Case(ARGUMENTS)
    void wrongKindComesAheadOfNoDirectory() {
        refusedWithTape(ARGUMENT, "a wrong kind", () -> make("d/n", 0, 0, 0));
        refusedWithTape(ARGUMENT, "a wrong mode", () -> make("d/n", FILE, -1, 0));
        refusedWithTape(ARGUMENT, "a wrong time", () -> make("d/n", FILE, 0, -1));
    }

    @Case(ARGUMENTS)
    void noPathComesAheadOfNoDirectory() {
        refusedWithTape(ARGUMENT, "no path", () -> file("d/.."));
    }

    @Case(ARGUMENTS)
    void argumentsComeAheadOfSixty() {
        sixty("d");
        thrown(ARGUMENT, "a wrong kind", () -> make("n", 4, 0, 0));
        thrown(ARGUMENT, "a wrong mode", () -> make("n", FILE, 4096, 0));
        thrown(ARGUMENT, "a wrong time", () -> make("n", FILE, 0, -1));
        thrown(ARGUMENT, "no path", () -> file("."));
        same("entries", x.about(3), 60);
        same("bytes on the tape", x.about(8), 0);
    }
}
