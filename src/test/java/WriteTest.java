/** Promise 6: the tape's bytes are written into the chosen entry's content. */
public final class WriteTest {
    public static void main(String[] args) {
        ordinary();
        wrongPlaces();
        wrongStates();
        tooLong();
        allTooLong();
        stateAheadOfArgument();
        keptTreesStay();
        Checks.finish();
    }

    private static MirrorKeep withFile() {
        MirrorKeep x = new MirrorKeep();
        Checks.file(x, "f");
        return x;
    }

    private static void ordinary() {
        MirrorKeep x = withFile();
        Checks.same("write at 0", Checks.write(x, 0, "hello"), 5);
        Checks.same("the tape is empty then", x.about(8), 0);
        Checks.same("write inside", Checks.write(x, 1, "EL"), 5);
        Checks.same("content", Checks.content(x, 0, 0), "hELlo");
        Checks.same("write over the end", Checks.write(x, 4, "O!!"), 7);
        Checks.same("content", Checks.content(x, 0, 0), "hELlO!!");
        Checks.same("write at the end", Checks.write(x, 7, "\0\u00ff"), 9);
        Checks.same("content", Checks.content(x, 0, 0), "hELlO!!\0\u00ff");
        Checks.same("write nothing", x.write(3), 9);
        Checks.same("write nothing at the end", x.write(9), 9);
        Checks.same("content", Checks.content(x, 0, 0), "hELlO!!\0\u00ff");
        Checks.same("mode and time stay", Checks.tree(x, 0), "f 1 0 0 hELlO!!\0\u00ff");
    }

    private static void wrongPlaces() {
        MirrorKeep x = withFile();
        Checks.write(x, 0, "abc");
        int[] wrong = {-1, 4, 5, Integer.MIN_VALUE};
        for (int at : wrong) {
            Checks.throwsArgument("write at " + at, () -> Checks.write(x, at, "z"));
            Checks.same("the tape is empty then", x.about(8), 0);
        }
        Checks.throwsArgument("nothing at 4", () -> x.write(4));
        Checks.same("content stays", Checks.content(x, 0, 0), "abc");
    }

    private static void wrongStates() {
        MirrorKeep x = new MirrorKeep();
        Checks.throwsState("nothing chosen", () -> Checks.write(x, 0, "z"));
        Checks.same("the tape is empty then", x.about(8), 0);
        Checks.directory(x, "d");
        Checks.throwsState("a directory", () -> Checks.write(x, 0, "z"));
        Checks.same("the tape is empty then", x.about(8), 0);
        Checks.file(x, "f");
        x.begin(1);
        Checks.throwsState("under way", () -> Checks.write(x, 0, "z"));
        Checks.same("the tape stays", x.about(8), 1);
        x.crash();
        Checks.same("broken", x.write(0), 1);
    }

    private static void tooLong() {
        MirrorKeep x = withFile();
        Checks.fill(x, 1499);
        Checks.throwsState("1501 bytes", () -> Checks.write(x, 1499, "zz"));
        Checks.same("the tape is empty then", x.about(8), 0);
        Checks.same("1500 bytes", Checks.write(x, 1499, "z"), 1500);
        Checks.throwsState("1501 bytes", () -> Checks.write(x, 1500, "z"));
        Checks.same("nothing at 1500", x.write(1500), 1500);
        Checks.same("at 1480", Checks.write(x, 1480, "y".repeat(20)), 1500);
        MirrorKeep y = new MirrorKeep();
        Checks.link(y, "l");
        Checks.fill(y, 99);
        Checks.throwsState("101 bytes of a link", () -> Checks.write(y, 99, "zz"));
        Checks.same("100 bytes of a link", Checks.write(y, 98, "zz"), 100);
    }

    private static void allTooLong() {
        MirrorKeep x = withFile();
        Checks.fill(x, 1500);
        Checks.file(x, "g");
        Checks.fill(x, 1500);
        Checks.file(x, "h");
        Checks.fill(x, 999);
        Checks.throwsState("4001 in all", () -> Checks.write(x, 999, "zz"));
        Checks.same("the tape is empty then", x.about(8), 0);
        Checks.same("in all", x.about(6), 3999);
        Checks.same("4000 in all", Checks.write(x, 999, "z"), 1000);
        Checks.same("over what is there", Checks.write(x, 990, "0123456789"), 1000);
        Checks.link(x, "l");
        Checks.throwsState("a byte of another", () -> Checks.write(x, 0, "z"));
        Checks.choose(x, "f");
        x.cut(1499);
        Checks.choose(x, "l");
        Checks.same("room again", Checks.write(x, 0, "z"), 1);
    }

    private static void stateAheadOfArgument() {
        MirrorKeep x = new MirrorKeep();
        Checks.throwsState("nothing chosen, at -1", () -> x.write(-1));
        Checks.directory(x, "d");
        Checks.throwsState("a directory, at 1", () -> x.write(1));
        Checks.file(x, "f");
        Checks.throwsState("too long, and no place", () -> Checks.write(x, 1500, "z"));
        Checks.throwsState("too long by far", () -> Checks.write(x, Integer.MAX_VALUE, "z"));
        Checks.throwsArgument("not too long, and no place", () -> Checks.write(x, 1499, "z"));
        x.begin(1);
        Checks.throwsState("under way, at -1", () -> x.write(-1));
    }

    private static void keptTreesStay() {
        MirrorKeep x = withFile();
        Checks.write(x, 0, "abc");
        Checks.keep(x, 1);
        Checks.write(x, 1, "Z");
        Checks.same("the mirror is as it was", Checks.content(x, 1, 0), "abc");
        x.restore(1);
        Checks.write(x, 0, "Y");
        Checks.same("the result is as it was", Checks.content(x, 2, 0), "abc");
        Checks.same("the source", Checks.content(x, 0, 0), "YZc");
    }
}
