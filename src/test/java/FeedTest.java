/** Promise 2: feed. */
public final class FeedTest extends KeepCases {
    private static final String READY =
        "Puts twenty bytes ready, those of a first, the highest of each first.";
    private static final String ZEROS =
        "(They are 0 at first, and behind each end() that answers a number.)";

    public static void main(String[] args) {
        run(FeedTest.class);
    }

    /** The bytes that come to the tape by end(n), as numbers. */
    private String ready(int n) {
        x.end(n);
        return written();
    }

    private String written() {
        StringBuilder text = new StringBuilder();
        x.cut(0);
        int length = x.write(0);
        for (int k = 0; k < length; k++) {
            text.append(k == 0 ? "" : " ").append(x.at(SOURCE, 0, false, k));
        }
        return text.toString();
    }

    @Case(READY)
    void twentyBytesInOrder() {
        file("f");
        x.feed(0x01020304, 0x05060708, 0x090a0b0c, 0x0d0e0f10, 0x11121314);
        same("the bytes", ready(20), "1 2 3 4 5 6 7 8 9 10 11 12 13 14 15 16 17 18 19 20");
    }

    @Case(READY)
    void lowestAndHighestNumbers() {
        file("f");
        x.feed(LOWEST, HIGHEST, -1, 0, 1);
        same("the bytes", ready(20), "128 0 0 0 127 255 255 255 255 255 255 255 0 0 0 0 0 0 0 1");
    }

    @Case(READY)
    void laterFeedPutsAllTwentyReadyAnew() {
        file("f");
        x.feed(-1, -1, -1, -1, -1);
        x.feed(0x01000000, 0, 0, 0, 2);
        same("the bytes", ready(20), "1" + " 0".repeat(18) + " 2");
    }

    @Case(READY)
    void feedLeavesTheTapeAlone() {
        file("f");
        tape("ab");
        x.feed(-1, -1, -1, -1, -1);
        same("bytes on the tape", x.about(8), 2);
        same("the bytes", written(), "97 98");
    }

    @Case(ZEROS)
    void zerosAtFirst() {
        x.end(1);
        same("bytes on the tape", x.about(8), 1);
        thrown(ARGUMENT, "make of a byte that is 0", () -> x.make(FILE, 0, 0));
    }

    @Case(ZEROS)
    void zerosBehindEndOf20() {
        file("f");
        x.feed(-1, -1, -1, -1, -1);
        x.end(20);
        same("the bytes", ready(20), "255 ".repeat(20) + "0" + " 0".repeat(19));
    }

    @Case(ZEROS)
    void zerosBehindEndOfFewerThanAreReady() {
        file("f");
        x.feed(0x01020304, 0x05060708, -1, -1, 9);
        x.end(2);
        same("the bytes", ready(20), "1 2" + " 0".repeat(20));
    }

    @Case(ZEROS)
    void zerosBehindEndOf0() {
        file("f");
        x.feed(-1, -1, -1, -1, -1);
        x.end(0);
        same("the bytes", ready(20), "0" + " 0".repeat(19));
    }

    @Case(ZEROS)
    void zerosBehindEndThatFillsTheTape() {
        file("f");
        zeros(399);
        x.feed(0x01020304, 0, 0, 0, 0);
        x.end(1);
        x.write(0);
        same("the bytes", ready(4), "0 0 0 0");
    }

    @Case(ZEROS)
    void bytesStayReadyBehindEndOf21() {
        file("f");
        x.feed(0x01020304, 0, 0, 0, 5);
        x.end(21);
        same("the bytes", ready(20), "1 2 3 4" + " 0".repeat(15) + " 5");
    }

    @Case(ZEROS)
    void bytesStayReadyBehindEndOfMinus1() {
        file("f");
        x.feed(0x01020304, 0, 0, 0, 5);
        x.end(-1);
        same("the bytes", ready(20), "1 2 3 4" + " 0".repeat(15) + " 5");
    }

    @Case(ZEROS)
    void bytesStayReadyBehindEndAtAFullTape() {
        file("f");
        zeros(400);
        x.feed(0x01020304, 0, 0, 0, 5);
        same("end(1)", x.end(1), NONE);
        x.write(0);
        same("the bytes", ready(20), "1 2 3 4" + " 0".repeat(15) + " 5");
    }

    @Case(ZEROS)
    void bytesStayReadyWhileTheTapeIsTaken() {
        file("f");
        x.feed(0x61626364, 0, 0, 0, 0);
        x.write(0);
        thrown(ARGUMENT, "make of no path", () -> x.make(FILE, 0, 0));
        same("the bytes", ready(4), "97 98 99 100");
    }
}
