/** Promise 15: sessions ahead of the latest one whose time is not above the one given are forgotten. */
public final class PruneTest {
    public static void main(String[] args) {
        pruned(9, 0, 10);
        pruned(Integer.MIN_VALUE, 0, 10);
        pruned(10, 0, 10);
        pruned(19, 0, 10);
        pruned(20, 1, 20);
        pruned(29, 1, 20);
        pruned(30, 2, 30);
        pruned(Integer.MAX_VALUE, 2, 30);
        whatIsLeft();
        onlyAtRest();
        Checks.finish();
    }

    private static void pruned(int time, int forgotten, int oldest) {
        MirrorKeep x = RestoreTest.threeSessions();
        String mirror = Checks.tree(x, 1);
        Checks.same("prune(" + time + ")", x.prune(time), forgotten);
        Checks.same("sessions", x.about(1), 3 - forgotten);
        Checks.same("the oldest", x.session(0, 0), oldest);
        Checks.same("the latest", x.session(2 - forgotten, 0), 30);
        Checks.same("none behind it", x.session(3 - forgotten, 0), MirrorKeep.NONE);
        Checks.same("the mirror is left alone", Checks.tree(x, 1), mirror);
        Checks.same("once more", x.prune(time), 0);
        Checks.throwsState("ahead of the oldest", () -> x.restore(oldest - 1));
        Checks.same("of the latest", x.restore(30), 1);
    }

    private static void whatIsLeft() {
        MirrorKeep x = RestoreTest.threeSessions();
        Checks.same("increments", x.about(7), 5);
        x.prune(20);
        Checks.same("increments", x.about(7), 2);
        Checks.same("changes of the oldest", x.session(0, 1), MirrorKeep.NONE);
        Checks.same("changes of the latest", x.session(1, 1), 2);
        Checks.same("restore(29)", x.restore(29), 3);
        Checks.same("the result", Checks.tree(x, 2), "a 1 1 1 ONE!; d 2 0 0 -; d/l 3 0 0 a");
        x.prune(30);
        Checks.same("increments", x.about(7), 0);
        Checks.file(x, "new");
        Checks.same("goes on", Checks.keep(x, 31), 5);
        Checks.same("changes of the new one", x.session(1, 1), 1);
    }

    private static void onlyAtRest() {
        MirrorKeep x = RestoreTest.threeSessions();
        x.begin(40);
        Checks.throwsState("under way", () -> x.prune(30));
        x.step(1);
        x.crash();
        Checks.throwsState("broken", () -> x.prune(30));
        Checks.same("none is forgotten", x.about(1), 3);
        x.regress(1);
        Checks.same("at rest", x.prune(30), 2);
        Checks.same("no session", new MirrorKeep().prune(5), 0);
    }
}
