/** Promise 12: the session that is under way breaks off. */
public final class CrashTest {
    public static void main(String[] args) {
        MirrorKeep x = new MirrorKeep();
        Checks.throwsState("at rest", () -> x.crash());
        for (int done = 0; done <= 8; done++) {
            behind(done);
        }
        behindCommit();
        Checks.finish();
    }

    private static void behind(int done) {
        MirrorKeep x = StepTest.threeChanges();
        x.step(done);
        String mirror = Checks.tree(x, 1);
        int increments = x.about(7);
        x.crash();
        Checks.same("state", x.about(0), 2);
        Checks.same("operations done", x.about(2), done);
        Checks.same("mirror", Checks.tree(x, 1), mirror);
        Checks.same("increments", x.about(7), increments);
        Checks.same("sessions", x.about(1), 1);
        Checks.throwsState("broken", () -> x.crash());
        Checks.throwsState("broken", () -> x.step(1));
    }

    private static void behindCommit() {
        MirrorKeep x = StepTest.threeChanges();
        x.step(9);
        Checks.throwsState("at rest behind COMMIT", () -> x.crash());
        Checks.same("state", x.about(0), 0);
    }
}
