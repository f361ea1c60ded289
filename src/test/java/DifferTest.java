/** Promise 16: how many changes there are between mirror and source. */
public final class DifferTest {
    public static void main(String[] args) {
        kinds();
        inASession();
        whileBroken();
        Checks.finish();
    }

    private static void kinds() {
        MirrorKeep x = new MirrorKeep();
        Checks.same("nothing", x.differ(), 0);
        Checks.directory(x, "d");
        Checks.file(x, "d/f");
        Checks.write(x, 0, "abc");
        Checks.same("two came", x.differ(), 2);
        Checks.keep(x, 1);
        Checks.same("none behind a session", x.differ(), 0);
        Checks.write(x, 0, "abc");
        x.set(0, 0);
        x.cut(3);
        Checks.same("the same again", x.differ(), 0);
        Checks.write(x, 2, "C");
        Checks.same("last byte", x.differ(), 1);
        Checks.write(x, 0, "Abc");
        Checks.same("first byte", x.differ(), 1);
        Checks.write(x, 0, "a");
        Checks.same("content as it was", x.differ(), 0);
        x.set(1, 0);
        Checks.same("mode", x.differ(), 1);
        x.set(0, 1);
        Checks.same("time", x.differ(), 1);
        x.remove();
        Checks.same("one went", x.differ(), 1);
        Checks.directory(x, "d/f");
        Checks.same("kind", x.differ(), 1);
        Checks.file(x, "e");
        Checks.same("one came, too", x.differ(), 2);
        Checks.choose(x, "d");
        x.remove();
        Checks.same("two went and one came", x.differ(), 3);
    }

    private static void inASession() {
        MirrorKeep x = StepTest.threeChanges();
        int[] left = {3, 3, 3, 2, 2, 1, 1, 0, 0, 0};
        for (int done = 0; done < left.length; done++) {
            Checks.same("behind " + done + " operations", x.differ(), left[done]);
            if (done < 9) {
                x.step(1);
            }
        }
        Checks.same("three changes were kept", x.session(1, 1), 3);
    }

    /** The mirror has two trees' entries then, and the source may be a third. */
    private static void whileBroken() {
        MirrorKeep x = new MirrorKeep();
        Checks.sixty(x, "y");
        Checks.keep(x, 1);
        Checks.choose(x, "y");
        x.remove();
        Checks.sixty(x, "x");
        x.begin(2);
        x.step(121);
        x.crash();
        Checks.choose(x, "x");
        x.remove();
        Checks.directory(x, "z");
        Checks.files(x, "z", 29);
        Checks.same("entries of the mirror", x.about(4), 120);
        Checks.same("differ()", x.differ(), 150);
        Checks.same("regress(200)", x.regress(200), 121);
        Checks.same("differ()", x.differ(), 90);
    }
}
