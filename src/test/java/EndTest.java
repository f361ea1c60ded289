/** Promise 3: end. */
public final class EndTest extends KeepCases {
    private static final String COME =
        "The first n of the bytes that are ready come to the tape: how many it has.";
    private static final String REFUSED =
        "NONE, and nothing comes, if n is not 0 .. 20, or it would have more than 400.";

    public static void main(String[] args) {
        run(EndTest.class);
    }

    private void isNone(int n) {
        file("f");
        tape("ab");
        x.feed(-1, -1, -1, -1, -1);
        same("end(" + n + ")", x.end(n), NONE);
        same("bytes on the tape", x.about(8), 2);
        x.write(0);
        same("what was on it", content(SOURCE, 0), "ab");
    }

    @Case(COME)
    void firstBytesCome() {
        x.feed(0x61626364, 0x65666768, 0, 0, 0);
        same("end(5)", x.end(5), 5);
        x.make(FILE, 0, 0);
        same("the path", path(SOURCE, 0), "abcde");
    }

    @Case(COME)
    void bytesComeBehindThoseThatAreThere() {
        tape("ab");
        tape("c");
        x.make(FILE, 0, 0);
        same("the path", path(SOURCE, 0), "abc");
    }

    @Case(COME)
    void itAnswersHowManyTheTapeHas() {
        same("end(3)", x.end(3), 3);
        same("end(20)", x.end(20), 23);
        same("end(1)", x.end(1), 24);
        same("bytes on the tape", x.about(8), 24);
    }

    @Case(REFUSED)
    void nOf0BringsNothing() {
        tape("ab");
        same("end(0)", x.end(0), 2);
    }

    @Case(REFUSED)
    void nOf0AtAnEmptyTape() {
        same("end(0)", x.end(0), 0);
    }

    @Case(REFUSED)
    void nOf20Comes() {
        same("end(20)", x.end(20), 20);
    }

    @Case(REFUSED)
    void nOfMinus1IsNone() {
        isNone(-1);
    }

    @Case(REFUSED)
    void nOf21IsNone() {
        isNone(21);
    }

    @Case(REFUSED)
    void lowestNIsNone() {
        isNone(LOWEST);
    }

    @Case(REFUSED)
    void highestNIsNone() {
        isNone(HIGHEST);
    }

    @Case(REFUSED)
    void tapeOf400IsFull() {
        zeros(380);
        same("end(20) to 400", x.end(20), 400);
        same("bytes on the tape", x.about(8), 400);
    }

    @Case(REFUSED)
    void tapeOf400ByTheLastByte() {
        zeros(399);
        same("end(1) to 400", x.end(1), 400);
    }

    @Case(REFUSED)
    void tapeOf401IsNone() {
        zeros(399);
        same("end(2) to 401", x.end(2), NONE);
        same("bytes on the tape", x.about(8), 399);
    }

    @Case(REFUSED)
    void tapeOf401ByTwentyBytesIsNone() {
        zeros(381);
        same("end(20) to 401", x.end(20), NONE);
        same("bytes on the tape", x.about(8), 381);
    }

    @Case(REFUSED)
    void oneByteAtAFullTapeIsNone() {
        zeros(400);
        same("end(1) to 401", x.end(1), NONE);
        same("bytes on the tape", x.about(8), 400);
    }

    @Case(REFUSED)
    void nOf0AtAFullTapeAnswers400() {
        zeros(400);
        same("end(0)", x.end(0), 400);
    }

    @Case(REFUSED)
    void highestNAtAFullTapeIsNone() {
        zeros(400);
        same("end(highest)", x.end(HIGHEST), NONE);
        same("bytes on the tape", x.about(8), 400);
    }

    @Case(REFUSED)
    void fullTapeKeepsAllItsBytes() {
        file("f");
        tape("x".repeat(399) + "y");
        x.end(1);
        same("write(0)", x.write(0), 400);
        same("byte 0", x.at(SOURCE, 0, false, 0), 'x');
        same("byte 398", x.at(SOURCE, 0, false, 398), 'x');
        same("byte 399", x.at(SOURCE, 0, false, 399), 'y');
    }

    @Case(COME)
    void itWorksInEveryState() {
        x.begin(1);
        same("under way", x.end(1), 1);
        x.crash();
        same("broken", x.end(1), 2);
    }
}
