/** Promise 2: twenty bytes are put ready, those of a first, the highest of each first. */
public final class FeedTest {
    public static void main(String[] args) {
        order();
        highBytes();
        zeroAtFirst();
        zeroBehindEnd();
        stayBehindRefusedEnd();
        laterFeedReplaces();
        Checks.finish();
    }

    /** A file of what the tape has, so that it can be looked at. */
    private static String content(MirrorKeep x) {
        StringBuilder text = new StringBuilder();
        x.write(0);
        for (int k = 0; k < x.entry(0, 0, 3); k++) {
            text.append(k == 0 ? "" : " ").append(x.at(0, 0, false, k));
        }
        return text.toString();
    }

    private static MirrorKeep withFile() {
        MirrorKeep x = new MirrorKeep();
        Checks.file(x, "f");
        return x;
    }

    private static void order() {
        MirrorKeep x = withFile();
        x.feed(0x01020304, 0x05060708, 0x090a0b0c, 0x0d0e0f10, 0x11121314);
        x.end(20);
        Checks.same("the twenty bytes", content(x), "1 2 3 4 5 6 7 8 9 10 11 12 13 14 15 16 17 18 19 20");
    }

    private static void highBytes() {
        MirrorKeep x = withFile();
        x.feed(-1, 0x80ff7f00, Integer.MIN_VALUE, Integer.MAX_VALUE, 0xfe);
        x.end(20);
        Checks.same("bytes above 127", content(x), "255 255 255 255 128 255 127 0 128 0 0 0 127 255 255 255 0 0 0 254");
    }

    private static void zeroAtFirst() {
        MirrorKeep x = withFile();
        MirrorKeep fresh = new MirrorKeep();
        fresh.end(2);
        Checks.same("tape of zeros", fresh.about(8), 2);
        Checks.throwsArgument("zeros are no path", () -> fresh.make(1, 0, 0));
        x.end(3);
        Checks.same("zeros", content(x), "0 0 0");
    }

    private static void zeroBehindEnd() {
        MirrorKeep x = withFile();
        x.feed(0x01020304, 0x05060708, 0, 0, 9);
        x.end(2);
        x.end(20);
        Checks.same("zeros behind end(2)", content(x), "1 2" + " 0".repeat(20));
        MirrorKeep y = withFile();
        y.feed(-1, -1, -1, -1, -1);
        y.end(0);
        y.end(2);
        Checks.same("zeros behind end(0)", content(y), "0 0");
    }

    private static void stayBehindRefusedEnd() {
        MirrorKeep x = withFile();
        x.feed(0x01020304, 0, 0, 0, 0);
        x.end(21);
        x.end(-1);
        x.end(4);
        Checks.same("bytes stay ready behind NONE", content(x), "1 2 3 4");
    }

    private static void laterFeedReplaces() {
        MirrorKeep x = withFile();
        x.feed(-1, -1, -1, -1, -1);
        x.feed(0x01000000, 0, 0, 0, 2);
        x.end(20);
        Checks.same("the later feed counts", content(x), "1" + " 0".repeat(18) + " 2");
    }
}
