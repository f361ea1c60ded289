/** Promise 7: cut. */
public final class CutTest extends KeepCases {
    private static final String CUT = "The CHOSEN entry's content is cut to a length.";
    private static final String LENGTH = "IllegalArgumentException: not 0 .. its length.";
    private static final String STATES =
        "IllegalStateException: a session is UNDER WAY, nothing is chosen, or a DIRECTORY is. (This first.)";

    public static void main(String[] args) {
        run(CutTest.class);
    }

    private void isCut(int length, String content) {
        make("f", FILE, 3, 4);
        write(0, "abcdef");
        tape("t");
        x.cut(length);
        same("the source", tree(SOURCE), "f 1 3 4 " + content);
        same("bytes of content", x.about(6), length);
        same("bytes on the tape", x.about(8), 1);
        isChosen("f");
    }

    private void isNoLength(int length) {
        fileOf("f", "abc");
        tape("t");
        refused(ARGUMENT, "cut(" + length + ")", () -> x.cut(length));
        isChosen("f");
    }

    @Case(CUT)
    void toSomeOfIt() {
        isCut(2, "ab");
    }

    @Case(CUT)
    void bytesThatWentDoNotComeAgain() {
        fileOf("f", "abcdef");
        x.cut(2);
        same("write", write(2, "Z"), 3);
        same("the content", content(SOURCE, 0), "abZ");
    }

    @Case(CUT)
    void linkIsCutToo() {
        link("l");
        write(0, "abc");
        x.cut(1);
        same("the source", tree(SOURCE), "l 3 0 0 a");
    }

    @Case(CUT)
    void mirrorAndResultAreLeftAlone() {
        fileOf("f", "abc");
        keep(1);
        x.restore(1);
        x.cut(1);
        same("the mirror", content(MIRROR, 0), "abc");
        same("the result", content(RESULT, 0), "abc");
    }

    @Case(LENGTH)
    void to0() {
        isCut(0, "-");
    }

    @Case(LENGTH)
    void toItsLength() {
        isCut(6, "abcdef");
    }

    @Case(LENGTH)
    void toOneLessThanItsLength() {
        isCut(5, "abcde");
    }

    @Case(LENGTH)
    void toMinus1IsRefused() {
        isNoLength(-1);
    }

    @Case(LENGTH)
    void toOneMoreThanItsLengthIsRefused() {
        isNoLength(4);
    }

    @Case(LENGTH)
    void toTheLowestIsRefused() {
        isNoLength(LOWEST);
    }

    @Case(LENGTH)
    void toTheHighestIsRefused() {
        isNoLength(HIGHEST);
    }

    @Case(LENGTH)
    void emptyContentTo0() {
        file("f");
        x.cut(0);
        same("the source", tree(SOURCE), "f 1 0 0 -");
    }

    @Case(LENGTH)
    void emptyContentTo1IsRefused() {
        file("f");
        refused(ARGUMENT, "cut(1)", () -> x.cut(1));
    }

    @Case(LENGTH)
    void fullContentTo1500() {
        file("f");
        fill(1500);
        x.cut(1500);
        same("its length", x.entry(SOURCE, 0, 3), 1500);
        refused(ARGUMENT, "cut(1501)", () -> x.cut(1501));
    }

    @Case(STATES)
    void underWayIsRefused() {
        fileOf("f", "abc");
        x.begin(1);
        refused(STATE, "cut, under way", () -> x.cut(1));
    }

    @Case(STATES)
    void nothingChosenIsRefused() {
        fileOf("f", "abc");
        choose("g");
        refused(STATE, "cut with nothing chosen", () -> x.cut(0));
    }

    @Case(STATES)
    void directoryIsRefused() {
        directory("d");
        refused(STATE, "cut of a directory", () -> x.cut(0));
    }

    @Case(STATES)
    void brokenIsNotUnderWay() {
        fileOf("f", "abc");
        x.begin(1);
        x.step(3);
        x.crash();
        x.cut(1);
        same("the source", content(SOURCE, 0), "a");
        same("the mirror", content(MIRROR, 0), "abc");
    }

    @Case(STATES)
    void underWayComesAheadOfTheLength() {
        fileOf("f", "abc");
        x.begin(1);
        refused(STATE, "cut(-1), under way", () -> x.cut(-1));
        refused(STATE, "cut(4), under way", () -> x.cut(4));
    }

    @Case(STATES)
    void nothingChosenComesAheadOfTheLength() {
        refused(STATE, "cut(-1) with nothing chosen", () -> x.cut(-1));
        refused(STATE, "cut(1) with nothing chosen", () -> x.cut(1));
    }

    @Case(STATES)
    void directoryComesAheadOfTheLength() {
        directory("d");
        refused(STATE, "cut(-1) of a directory", () -> x.cut(-1));
        refused(STATE, "cut(1) of a directory", () -> x.cut(1));
    }
}
