/** Promise 19: what is told of the whole. */
public final class AboutTest {
    public static void main(String[] args) {
        MirrorKeep x = EntryTest.threeTrees();
        told("at rest", x, 0, 2, 0, 3, 2, 1, 15, 1, 0);
        Checks.tape(x, "tape");
        x.begin(3);
        told("under way", x, 1, 2, 0, 3, 2, 1, 15, 1, 4);
        x.step(2);
        told("an increment is done", x, 1, 2, 2, 3, 2, 1, 15, 2, 4);
        x.step(1);
        told("an update is done", x, 1, 2, 3, 3, 3, 1, 15, 2, 4);
        x.crash();
        told("broken", x, 2, 2, 3, 3, 3, 1, 15, 2, 4);
        x.regress(1);
        told("the update is taken back", x, 2, 2, 2, 3, 2, 1, 15, 2, 4);
        x.regress(1);
        told("the increment is taken back", x, 2, 2, 1, 3, 2, 1, 15, 1, 4);
        x.regress(1);
        told("at rest", x, 0, 2, 0, 3, 2, 1, 15, 1, 4);
        Checks.keep(x, 4);
        told("a third session", x, 0, 3, 0, 3, 3, 1, 15, 2, 4);
        x.prune(2);
        told("one is forgotten", x, 0, 2, 0, 3, 3, 1, 15, 1, 4);
        none(x);
        incrementsOfTheFirst();
        Checks.finish();
    }

    private static void told(String when, MirrorKeep x, int... wants) {
        for (int what = 0; what < wants.length; what++) {
            Checks.same(when + ": about(" + what + ")", x.about(what), wants[what]);
        }
    }

    private static void none(MirrorKeep x) {
        int[] wrong = {-1, 9, 10, Integer.MIN_VALUE, Integer.MAX_VALUE};
        for (int what : wrong) {
            Checks.same("about(" + what + ")", x.about(what), MirrorKeep.NONE);
        }
    }

    /** They lead back to no session once it counts. */
    private static void incrementsOfTheFirst() {
        MirrorKeep x = new MirrorKeep();
        Checks.file(x, "a");
        Checks.file(x, "b");
        x.begin(1);
        x.step(6);
        Checks.same("under way", x.about(7), 2);
        x.step(1);
        Checks.same("it counts", x.about(7), 0);
        x.begin(2);
        Checks.same("none of the next", x.about(7), 0);
        x.step(2);
        Checks.same("none of the next, which changes nothing", x.about(7), 0);
    }
}
