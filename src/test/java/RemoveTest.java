/** Promise 9: the chosen entry goes from the source, and all below it. */
public final class RemoveTest {
    public static void main(String[] args) {
        MirrorKeep x = new MirrorKeep();
        Checks.throwsState("nothing chosen", () -> x.remove());
        Checks.directory(x, "d");
        Checks.directory(x, "d/e");
        Checks.file(x, "d/e/f");
        Checks.write(x, 0, "abc");
        Checks.file(x, "d/g");
        Checks.file(x, "d-");
        Checks.file(x, "dd");
        Checks.directory(x, "c");
        Checks.file(x, "c/d");
        Checks.same("the source", Checks.paths(x, 0), "c c/d d d/e d/e/f d/g d- dd");
        Checks.keep(x, 1);
        Checks.same("choose", Checks.choose(x, "d/e"), 2);
        Checks.same("remove d/e", x.remove(), 2);
        Checks.same("the source", Checks.paths(x, 0), "c c/d d d/g d- dd");
        Checks.same("its bytes went", x.about(6), 0);
        Checks.throwsState("nothing is chosen then", () -> x.remove());
        Checks.throwsState("nothing is chosen then", () -> x.set(1, 1));
        Checks.choose(x, "d");
        Checks.same("remove d", x.remove(), 2);
        Checks.same("the source", Checks.paths(x, 0), "c c/d d- dd");
        Checks.choose(x, "dd");
        Checks.same("remove dd", x.remove(), 1);
        Checks.same("the source", Checks.paths(x, 0), "c c/d d-");
        Checks.same("the mirror is as it was", Checks.paths(x, 1), "c c/d d d/e d/e/f d/g d- dd");
        inASession(x);
        Checks.finish();
    }

    private static void inASession(MirrorKeep x) {
        Checks.choose(x, "c");
        x.begin(2);
        Checks.throwsState("under way", () -> x.remove());
        x.crash();
        Checks.same("broken", x.remove(), 2);
        Checks.same("the source", Checks.paths(x, 0), "d-");
        x.regress(0);
        Checks.tape(x, "t");
        Checks.throwsState("nothing chosen", () -> x.remove());
        Checks.same("the tape is left alone", x.about(8), 1);
    }
}
