/** Promise 5: choose. */
public final class ChooseTest extends KeepCases {
    private static final String CHOSEN =
        "The source's entry of the path that is on the tape (which is empty then) is CHOSEN: its KIND";
    private static final String NOTHING = "NONE, and nothing is chosen then, if there is none.";

    public static void main(String[] args) {
        run(ChooseTest.class);
    }

    private void isNone(String path) {
        directory("d");
        file("d/f");
        same("choose of " + path, choose(path), NONE);
        same("bytes on the tape", x.about(8), 0);
        nothingIsChosen();
    }

    @Case(CHOSEN)
    void itAnswersTheKind() {
        directory("d");
        file("d/f");
        link("l");
        same("choose of d", choose("d"), DIRECTORY);
        same("choose of d/f", choose("d/f"), FILE);
        same("choose of l", choose("l"), LINK);
    }

    @Case(CHOSEN)
    void entryOfThePathIsChosen() {
        file("a");
        file("b");
        file("c");
        choose("b");
        isChosen("b");
    }

    @Case(CHOSEN)
    void tapeIsEmptyThen() {
        file("a");
        choose("a");
        same("bytes on the tape", x.about(8), 0);
    }

    @Case(CHOSEN)
    void longestPathIsChosen() {
        String path = "";
        for (int i = 0; i < 6; i++) {
            path = path + (i == 0 ? "" : "/") + "n".repeat(24);
            directory(path);
        }
        same("choose", choose(path), DIRECTORY);
        same("remove", x.remove(), 1);
        same("entries", x.about(3), 5);
    }

    @Case(CHOSEN)
    void firstAndLastOfSixtyAreChosen() {
        sixty("d");
        same("choose of the first", choose("d"), DIRECTORY);
        same("choose of the last", choose("d/9"), FILE);
        same("remove", x.remove(), 1);
        same("entries", x.about(3), 59);
    }

    @Case(NOTHING)
    void emptyTapeIsNone() {
        isNone("");
    }

    @Case(NOTHING)
    void emptySourceIsNone() {
        same("choose of a", choose("a"), NONE);
        same("bytes on the tape", x.about(8), 0);
        nothingIsChosen();
    }

    @Case(NOTHING)
    void fullTapeIsNone() {
        isNone("x".repeat(400));
    }

    @Case(NOTHING)
    void anotherPathIsNone() {
        isNone("e");
    }

    @Case(NOTHING)
    void pathThatIsShorterIsNone() {
        isNone("d/");
    }

    @Case(NOTHING)
    void pathThatIsLongerIsNone() {
        isNone("d/f/g");
    }

    @Case(NOTHING)
    void pathThatEndsInAByte0IsNone() {
        isNone("d/f\0");
    }

    @Case(NOTHING)
    void byte0InPlaceOfTheSlashIsNone() {
        isNone("d\0f");
    }

    @Case(NOTHING)
    void slashAheadIsNone() {
        isNone("/d");
    }

    @Case(NOTHING)
    void whatIsNoPathIsNone() {
        isNone("..");
    }

    @Case(NOTHING)
    void otherCaseIsNone() {
        isNone("D");
    }

    @Case(NOTHING)
    void whatWentIsNone() {
        file("a");
        x.remove();
        same("choose of a", choose("a"), NONE);
    }

    @Case(NOTHING)
    void whatOnlyTheMirrorHasIsNone() {
        file("a");
        keep(1);
        x.remove();
        same("choose of a", choose("a"), NONE);
    }

    @Case(CHOSEN)
    void underWayItIsChosenToo() {
        file("a");
        file("b");
        x.begin(1);
        same("choose of a", choose("a"), FILE);
        same("bytes on the tape", x.about(8), 0);
        x.step(200);
        isChosen("a");
    }

    @Case(NOTHING)
    void underWayItIsNoneToo() {
        file("a");
        x.begin(1);
        same("choose of b", choose("b"), NONE);
        same("bytes on the tape", x.about(8), 0);
        x.step(200);
        nothingIsChosen();
    }

    @Case(CHOSEN)
    void brokenItIsChosenToo() {
        file("a");
        file("b");
        x.begin(1);
        x.step(4);
        x.crash();
        same("choose of a", choose("a"), FILE);
        isChosen("a");
    }

    @Case(CHOSEN)
    void choiceStaysThroughASession() {
        file("a");
        file("b");
        choose("a");
        keep(1);
        isChosen("a");
    }

    @Case(CHOSEN)
    void choiceStaysThroughARegress() {
        file("a");
        file("b");
        choose("a");
        x.begin(1);
        x.step(4);
        x.crash();
        x.regress(200);
        isChosen("a");
    }
}
