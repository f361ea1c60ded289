/** Promise 13: what a broken session did is taken back, operation by operation. */
public final class RegressTest {
    public static void main(String[] args) {
        for (int done = 0; done <= 8; done++) {
            wholly(done);
            oneByOne(done);
        }
        sourceMayChange();
        noMark();
        firstSession();
        wrong();
        moreThanTwoHundred();
        Checks.finish();
    }

    private static MirrorKeep broken(int done) {
        MirrorKeep x = StepTest.threeChanges();
        x.step(done);
        x.crash();
        return x;
    }

    private static void atRest(MirrorKeep x) {
        Checks.same("state", x.about(0), 0);
        Checks.same("operations done", x.about(2), 0);
        Checks.same("increments", x.about(7), 0);
        Checks.same("sessions", x.about(1), 1);
        Checks.same("mirror", Checks.tree(x, 1), "a 1 0 0 one; b 1 0 0 two");
        Checks.throwsState("not broken", () -> x.regress(1));
        Checks.same("the same session again", x.begin(2), 9);
    }

    private static void wholly(int done) {
        MirrorKeep x = broken(done);
        Checks.same("regress(200) behind " + done, x.regress(200), done);
        atRest(x);
    }

    /** Each operation that is taken back leads to what was there when one less was done. */
    private static void oneByOne(int done) {
        MirrorKeep x = broken(done);
        for (int left = done - 1; left >= 0; left--) {
            MirrorKeep like = StepTest.threeChanges();
            like.step(left);
            Checks.same("regress(0)", x.regress(0), 0);
            Checks.same("state", x.about(0), 2);
            Checks.same("regress(1)", x.regress(1), 1);
            Checks.same("mirror", Checks.tree(x, 1), Checks.tree(like, 1));
            Checks.same("increments", x.about(7), like.about(7));
            Checks.same("operations done", x.about(2), left);
            Checks.same("state", x.about(0), left == 0 ? 0 : 2);
        }
    }

    private static void sourceMayChange() {
        MirrorKeep x = broken(8);
        Checks.choose(x, "a");
        Checks.write(x, 0, "xxx");
        Checks.choose(x, "c");
        x.remove();
        Checks.file(x, "d");
        Checks.same("regress(3)", x.regress(3), 3);
        Checks.same("regress(200)", x.regress(200), 5);
        Checks.same("mirror", Checks.tree(x, 1), "a 1 0 0 one; b 1 0 0 two");
        Checks.same("a, b and d differ", x.begin(2), 9);
    }

    private static void noMark() {
        for (int n : new int[] {0, 1, 200}) {
            MirrorKeep x = broken(0);
            Checks.same("regress(" + n + ")", x.regress(n), 0);
            atRest(x);
        }
    }

    private static void firstSession() {
        MirrorKeep x = new MirrorKeep();
        Checks.file(x, "a");
        x.begin(0);
        x.step(4);
        x.crash();
        Checks.same("increments", x.about(7), 1);
        Checks.same("regress(200)", x.regress(200), 4);
        Checks.same("mirror", x.about(4), 0);
        Checks.same("sessions", x.about(1), 0);
        Checks.same("any time again", x.begin(0), 5);
    }

    private static void wrong() {
        MirrorKeep x = StepTest.threeChanges();
        Checks.throwsState("under way", () -> x.regress(1));
        Checks.throwsState("under way, a wrong n", () -> x.regress(201));
        x.step(3);
        x.crash();
        int[] wrong = {-1, 201, Integer.MIN_VALUE, Integer.MAX_VALUE};
        for (int n : wrong) {
            Checks.throwsArgument("regress(" + n + ")", () -> x.regress(n));
        }
        Checks.same("none is taken back", x.about(2), 3);
        x.regress(3);
        Checks.throwsState("at rest", () -> x.regress(0));
        Checks.throwsState("at rest, a wrong n", () -> x.regress(-1));
    }

    private static void moreThanTwoHundred() {
        MirrorKeep x = new MirrorKeep();
        Checks.sixty(x, "a");
        Checks.keep(x, 1);
        Checks.choose(x, "a");
        x.remove();
        Checks.sixty(x, "b");
        x.begin(2);
        x.step(200);
        x.step(42);
        x.crash();
        Checks.same("regress(200)", x.regress(200), 200);
        Checks.same("regress(200)", x.regress(200), 42);
        Checks.same("entries of the mirror", x.about(4), 60);
        Checks.same("the first", Checks.path(x, 1, 0), "a");
        Checks.same("the last", Checks.path(x, 1, 59), "a/9");
    }
}
