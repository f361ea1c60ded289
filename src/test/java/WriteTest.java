/** Promise 6: write. */
public final class WriteTest extends KeepCases {
    private static final String WRITTEN = "The bytes on the tape (which is empty then) are written into the CHOSEN "
        + "entry's content, from a place on, and it is as long as it was, or longer if that is necessary: its length.";
    private static final String PLACE = "IllegalArgumentException: at is not 0 .. its length.";
    private static final String STATES = "IllegalStateException: a session is UNDER WAY (the tape stays), nothing is "
        + "chosen, or a DIRECTORY is; it would be too long, or all would be.";
    private static final String FIRST = "(These ahead of the first.)";
    private static final String LENGTHS =
        "of a FILE at most 1500, of a LINK at most 100; all together at most 4000.";

    public static void main(String[] args) {
        run(WriteTest.class);
    }

    private void isWritten(int at, String bytes, String content) {
        fileOf("f", "hello");
        same("write(" + at + ")", write(at, bytes), content.length());
        same("the content", content(SOURCE, 0), content);
        same("bytes of content", x.about(6), content.length());
        same("bytes on the tape", x.about(8), 0);
    }

    private void isNoPlace(int at, String bytes) {
        fileOf("f", "abc");
        refusedWithTape(ARGUMENT, "write(" + at + ")", () -> write(at, bytes));
        isChosen("f");
    }

    /** 3000 bytes of content, and an empty file h that is chosen. */
    private void twoFullFiles() {
        file("f");
        fill(1500);
        file("g");
        fill(1500);
        file("h");
    }

    @Case(WRITTEN)
    void atTheStart() {
        isWritten(0, "HE", "HEllo");
    }

    @Case(WRITTEN)
    void insideItIsAsLongAsItWas() {
        isWritten(1, "EL", "hELlo");
    }

    @Case(WRITTEN)
    void upToItsEndItIsAsLongAsItWas() {
        isWritten(3, "LO", "helLO");
    }

    @Case(WRITTEN)
    void overItsEndItIsLonger() {
        isWritten(4, "O!", "hellO!");
    }

    @Case(WRITTEN)
    void atItsEndItIsLonger() {
        isWritten(5, "!", "hello!");
    }

    @Case(WRITTEN)
    void overAllOfIt() {
        isWritten(0, "HELLO", "HELLO");
    }

    @Case(WRITTEN)
    void overMoreThanAllOfIt() {
        isWritten(0, "HELLO!", "HELLO!");
    }

    @Case(WRITTEN)
    void nothingAtTheStart() {
        isWritten(0, "", "hello");
    }

    @Case(WRITTEN)
    void nothingAtTheEnd() {
        isWritten(5, "", "hello");
    }

    @Case(WRITTEN)
    void nothingIntoNothing() {
        file("f");
        same("write(0)", x.write(0), 0);
        same("the source", tree(SOURCE), "f 1 0 0 -");
    }

    @Case(WRITTEN)
    void bytesOf0And255() {
        isWritten(5, "\0\u00ff\u0080\u007f", "hello\0\u00ff\u0080\u007f");
    }

    @Case(WRITTEN)
    void fullTapeIsWritten() {
        file("f");
        zeros(400);
        same("write(0)", x.write(0), 400);
        same("bytes on the tape", x.about(8), 0);
    }

    @Case(WRITTEN)
    void modeAndTimeAndOtherEntriesStay() {
        make("a", LINK, 3, 4);
        write(0, "one");
        make("b", FILE, 5, 6);
        write(0, "two");
        same("the source", tree(SOURCE), "a 3 3 4 one; b 1 5 6 two");
    }

    @Case(WRITTEN)
    void mirrorAndResultAreLeftAlone() {
        fileOf("f", "abc");
        keep(1);
        x.restore(1);
        write(1, "Z");
        same("the mirror", content(MIRROR, 0), "abc");
        same("the result", content(RESULT, 0), "abc");
        same("the source", content(SOURCE, 0), "aZc");
    }

    @Case(PLACE)
    void atItsLengthIsAPlace() {
        fileOf("f", "abc");
        same("write(3)", write(3, "d"), 4);
    }

    @Case(PLACE)
    void atMinus1IsNoPlace() {
        isNoPlace(-1, "z");
    }

    @Case(PLACE)
    void behindItsLengthIsNoPlace() {
        isNoPlace(4, "z");
    }

    @Case(PLACE)
    void atTheLowestIsNoPlace() {
        isNoPlace(LOWEST, "z");
    }

    @Case(PLACE)
    void nothingAtMinus1IsNoPlace() {
        isNoPlace(-1, "");
    }

    @Case(PLACE)
    void nothingBehindItsLengthIsNoPlace() {
        isNoPlace(4, "");
    }

    @Case(PLACE)
    void at1OfNothingIsNoPlace() {
        link("l");
        refusedWithTape(ARGUMENT, "write(1)", () -> write(1, "z"));
    }

    @Case(PLACE)
    void behindACutIsNoPlace() {
        fileOf("f", "abc");
        x.cut(1);
        refusedWithTape(ARGUMENT, "write(2)", () -> write(2, "z"));
        same("write(1)", write(1, "z"), 2);
    }

    @Case(STATES)
    void underWayTheTapeStays() {
        file("f");
        x.begin(1);
        tape("abc");
        refused(STATE, "write, under way", () -> x.write(0));
        x.step(200);
        same("write of what stayed", x.write(0), 3);
        same("the content", content(SOURCE, 0), "abc");
    }

    @Case(STATES)
    void underWayTheTapeStaysWhenNothingIsChosen() {
        x.begin(1);
        tape("abc");
        refused(STATE, "write, under way", () -> x.write(0));
    }

    @Case(STATES)
    void underWayTheTapeStaysWhenADirectoryIsChosen() {
        directory("d");
        x.begin(1);
        tape("abc");
        refused(STATE, "write, under way", () -> x.write(0));
    }

    @Case(STATES)
    void underWayTheTapeStaysWhenItWouldBeTooLong() {
        link("l");
        x.begin(1);
        zeros(101);
        refused(STATE, "write, under way", () -> x.write(0));
    }

    @Case(STATES)
    void brokenIsNotUnderWay() {
        file("f");
        x.begin(1);
        x.crash();
        same("write while broken", write(0, "abc"), 3);
    }

    @Case(STATES)
    void nothingChosenIsRefusedAndTheTapeIsEmpty() {
        file("f");
        choose("g");
        refusedWithTape(STATE, "write with nothing chosen", () -> write(0, "abc"));
    }

    @Case(STATES)
    void directoryIsRefusedAndTheTapeIsEmpty() {
        directory("d");
        refusedWithTape(STATE, "write into a directory", () -> write(0, "abc"));
        isChosen("d");
    }

    @Case(STATES)
    void nothingIntoADirectoryIsRefused() {
        directory("d");
        refusedWithTape(STATE, "write into a directory", () -> x.write(0));
    }

    @Case(LENGTHS)
    void fileOf1500IsNotTooLong() {
        file("f");
        fill(1499);
        same("write", write(1499, "z"), 1500);
        same("the last byte", x.at(SOURCE, 0, false, 1499), 'z');
    }

    @Case(LENGTHS)
    void fileOf1501IsTooLong() {
        file("f");
        fill(1499);
        refusedWithTape(STATE, "write to 1501", () -> write(1499, "zz"));
        same("its length", x.entry(SOURCE, 0, 3), 1499);
        isChosen("f");
    }

    @Case(LENGTHS)
    void oneByteAtTheEndOfAFullFileIsTooLong() {
        file("f");
        fill(1500);
        refusedWithTape(STATE, "write to 1501", () -> write(1500, "z"));
    }

    @Case(LENGTHS)
    void nothingAtTheEndOfAFullFileIsWritten() {
        file("f");
        fill(1500);
        same("write(1500)", x.write(1500), 1500);
    }

    @Case(LENGTHS)
    void bytesInsideAFullFileAreWritten() {
        file("f");
        fill(1500);
        same("write(1498)", write(1498, "zz"), 1500);
    }

    @Case(LENGTHS)
    void linkOf100IsNotTooLong() {
        link("l");
        zeros(100);
        same("write", x.write(0), 100);
    }

    @Case(LENGTHS)
    void linkOf101IsTooLong() {
        link("l");
        refusedWithTape(STATE, "write of 101", () -> {
            zeros(101);
            x.write(0);
        });
    }

    @Case(LENGTHS)
    void oneByteAtTheEndOfAFullLinkIsTooLong() {
        link("l");
        fill(100);
        refusedWithTape(STATE, "write to 101", () -> write(100, "z"));
    }

    @Case(LENGTHS)
    void fileMayBeLongerThanALink() {
        file("f");
        zeros(101);
        same("write", x.write(0), 101);
    }

    @Case(LENGTHS)
    void allOf4000IsNotTooLong() {
        twoFullFiles();
        fill(999);
        same("write", write(999, "z"), 1000);
        same("bytes of content", x.about(6), 4000);
    }

    @Case(LENGTHS)
    void allOf4001IsTooLong() {
        twoFullFiles();
        fill(999);
        refusedWithTape(STATE, "write to 4001", () -> write(999, "zz"));
        same("bytes of content", x.about(6), 3999);
    }

    @Case(LENGTHS)
    void oneByteOfAnotherEntryIsTooLongForAll() {
        twoFullFiles();
        fill(1000);
        link("l");
        refusedWithTape(STATE, "write to 4001", () -> write(0, "z"));
        same("nothing is written", x.write(0), 0);
    }

    @Case(LENGTHS)
    void bytesOverOthersAreNotTooLongForAll() {
        twoFullFiles();
        fill(1000);
        same("write", write(990, "0123456789"), 1000);
        same("bytes of content", x.about(6), 4000);
    }

    @Case(LENGTHS)
    void allOf4000BehindACut() {
        twoFullFiles();
        fill(1000);
        x.cut(999);
        link("l");
        same("write", write(0, "z"), 1);
        same("bytes of content", x.about(6), 4000);
    }

    @Case(LENGTHS)
    void allOf4000BehindARemove() {
        twoFullFiles();
        fill(1000);
        x.remove();
        link("l");
        same("write", write(0, "z"), 1);
        same("bytes of content", x.about(6), 3001);
    }

    @Case(FIRST)
    void underWayComesAheadOfNoPlace() {
        file("f");
        x.begin(1);
        tape("z");
        refused(STATE, "write(-1), under way", () -> x.write(-1));
        refused(STATE, "write(1), under way", () -> x.write(1));
    }

    @Case(FIRST)
    void nothingChosenComesAheadOfNoPlace() {
        refusedWithTape(STATE, "write(-1) with nothing chosen", () -> write(-1, "z"));
        refusedWithTape(STATE, "write(1) with nothing chosen", () -> write(1, "z"));
    }

    @Case(FIRST)
    void directoryComesAheadOfNoPlace() {
        directory("d");
        refusedWithTape(STATE, "write(-1) into a directory", () -> write(-1, "z"));
        refusedWithTape(STATE, "write(1) into a directory", () -> write(1, "z"));
    }

    @Case(FIRST)
    void fileTooLongComesAheadOfNoPlace() {
        file("f");
        refusedWithTape(STATE, "write(1500) to 1501", () -> write(1500, "z"));
        refusedWithTape(ARGUMENT, "write(1499) to 1500", () -> write(1499, "z"));
    }

    @Case(FIRST)
    void linkTooLongComesAheadOfNoPlace() {
        link("l");
        refusedWithTape(STATE, "write(100) to 101", () -> write(100, "z"));
        refusedWithTape(ARGUMENT, "write(99) to 100", () -> write(99, "z"));
    }

    @Case(FIRST)
    void allTooLongComesAheadOfNoPlace() {
        twoFullFiles();
        refusedWithTape(STATE, "write(1000) to 4001", () -> write(1000, "z"));
        refusedWithTape(ARGUMENT, "write(999) to 4000", () -> write(999, "z"));
    }

    @Case(FIRST)
    void farPlaceIsTooLongAndDoesNotWrapRound() {
        fileOf("f", "abc");
        refusedWithTape(STATE, "write(highest)", () -> write(HIGHEST, "z"));
        refusedWithTape(STATE, "write(highest - 399)", () -> {
            zeros(400);
            x.write(HIGHEST - 399);
        });
    }
}
