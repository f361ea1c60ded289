/** Promise 7: the chosen entry's content is cut to a length. */
public final class CutTest {
    public static void main(String[] args) {
        MirrorKeep x = new MirrorKeep();
        Checks.throwsState("nothing chosen", () -> x.cut(0));
        Checks.throwsState("nothing chosen, a wrong length", () -> x.cut(-1));
        Checks.directory(x, "d");
        Checks.throwsState("a directory", () -> x.cut(0));
        Checks.throwsState("a directory, a wrong length", () -> x.cut(1));
        Checks.link(x, "l");
        Checks.write(x, 0, "abcdef");
        x.cut(6);
        Checks.same("cut to all", Checks.content(x, 0, 1), "abcdef");
        x.cut(2);
        Checks.same("cut to 2", Checks.content(x, 0, 1), "ab");
        Checks.throwsArgument("cut to 3", () -> x.cut(3));
        Checks.throwsArgument("cut to -1", () -> x.cut(-1));
        Checks.throwsArgument("cut to the lowest", () -> x.cut(Integer.MIN_VALUE));
        Checks.throwsArgument("cut to the highest", () -> x.cut(Integer.MAX_VALUE));
        Checks.same("content stays", Checks.content(x, 0, 1), "ab");
        Checks.same("behind a cut", Checks.write(x, 2, "Z"), 3);
        Checks.same("content", Checks.content(x, 0, 1), "abZ");
        x.cut(0);
        Checks.same("cut to 0", Checks.tree(x, 0), "d 2 0 0 -; l 3 0 0 -");
        inASession(x);
        Checks.finish();
    }

    private static void inASession(MirrorKeep x) {
        Checks.tape(x, "xy");
        x.write(0);
        Checks.keep(x, 1);
        x.cut(1);
        Checks.same("the mirror is as it was", Checks.content(x, 1, 1), "xy");
        x.begin(2);
        Checks.throwsState("under way", () -> x.cut(0));
        Checks.throwsState("under way, a wrong length", () -> x.cut(-1));
        x.crash();
        Checks.tape(x, "t");
        x.cut(0);
        Checks.same("broken", x.entry(0, 1, 3), 0);
        Checks.same("the tape is left alone", x.about(8), 1);
    }
}
