/** Promise 5: the source's entry of the tape's path is chosen. */
public final class ChooseTest {
    public static void main(String[] args) {
        MirrorKeep x = new MirrorKeep();
        Checks.directory(x, "d");
        Checks.file(x, "d/f");
        Checks.link(x, "l");
        Checks.same("choose d", Checks.choose(x, "d"), 2);
        Checks.same("choose l", Checks.choose(x, "l"), 3);
        Checks.same("choose d/f", Checks.choose(x, "d/f"), 1);
        Checks.same("the tape is empty then", x.about(8), 0);
        x.set(7, 8);
        Checks.same("d/f is chosen", Checks.tree(x, 0), "d 2 0 0 -; d/f 1 7 8 -; l 3 0 0 -");
        none(x);
        anyState();
        Checks.finish();
    }

    private static void none(MirrorKeep x) {
        String[] wrong = {"", "e", "d/", "d/g", "D", "d\0f", "d/f\0", "d/f/g", "/d", "..", "x".repeat(400)};
        for (String path : wrong) {
            Checks.choose(x, "d/f");
            Checks.same("choose " + path, Checks.choose(x, path), MirrorKeep.NONE);
            Checks.same("the tape is empty then", x.about(8), 0);
            Checks.throwsState("nothing is chosen then", () -> x.set(1, 1));
        }
    }

    private static void anyState() {
        MirrorKeep x = new MirrorKeep();
        Checks.file(x, "a");
        Checks.file(x, "b");
        x.begin(1);
        Checks.same("choose, under way", Checks.choose(x, "a"), 1);
        x.step(2);
        x.crash();
        x.set(5, 6);
        Checks.same("a is chosen", Checks.tree(x, 0), "a 1 5 6 -; b 1 0 0 -");
        Checks.same("choose, broken", Checks.choose(x, "b"), 1);
        x.regress(200);
        x.set(7, 8);
        Checks.same("b is chosen", Checks.tree(x, 0), "a 1 5 6 -; b 1 7 8 -");
        Checks.choose(x, "b");
        x.remove();
        Checks.keep(x, 1);
        Checks.file(x, "c");
        Checks.choose(x, "a");
        x.remove();
        Checks.same("what only the mirror has", Checks.choose(x, "a"), MirrorKeep.NONE);
    }
}
