/** Promise 14: the result is the tree of the latest session whose time is not above the one given. */
public final class RestoreTest {
    private static final String FIRST = "a 1 1 1 one";
    private static final String SECOND = "a 1 1 1 ONE!; d 2 0 0 -; d/l 3 0 0 a";
    private static final String THIRD = "d 2 0 0 -";

    public static void main(String[] args) {
        MirrorKeep x = threeSessions();
        Checks.throwsState("before the first", () -> x.restore(9));
        Checks.throwsState("lowest", () -> x.restore(Integer.MIN_VALUE));
        Checks.same("no result yet", x.about(5), 0);
        restored(x, 10, 1, FIRST);
        restored(x, 30, 1, THIRD);
        restored(x, 19, 1, FIRST);
        restored(x, 20, 3, SECOND);
        restored(x, 29, 3, SECOND);
        restored(x, Integer.MAX_VALUE, 1, THIRD);
        Checks.same("the mirror is left alone", Checks.tree(x, 1), THIRD);
        restored(x, 25, 3, SECOND);
        Checks.throwsState("before the first", () -> x.restore(9));
        Checks.same("the result stays then", Checks.tree(x, 2), SECOND);
        onlyAtRest(x);
        noSession();
        Checks.finish();
    }

    static MirrorKeep threeSessions() {
        MirrorKeep x = new MirrorKeep();
        Checks.make(x, "a", 1, 1, 1);
        Checks.write(x, 0, "one");
        Checks.keep(x, 10);
        Checks.write(x, 0, "ONE!");
        Checks.directory(x, "d");
        Checks.link(x, "d/l");
        Checks.write(x, 0, "a");
        Checks.keep(x, 20);
        x.remove();
        Checks.choose(x, "a");
        x.remove();
        Checks.keep(x, 30);
        return x;
    }

    private static void restored(MirrorKeep x, int time, int entries, String tree) {
        Checks.same("restore(" + time + ")", x.restore(time), entries);
        Checks.same("entries of the result", x.about(5), entries);
        Checks.same("the result of " + time, Checks.tree(x, 2), tree);
    }

    private static void onlyAtRest(MirrorKeep x) {
        Checks.file(x, "z");
        x.begin(40);
        Checks.throwsState("under way", () -> x.restore(10));
        x.step(3);
        x.crash();
        Checks.throwsState("broken", () -> x.restore(10));
        Checks.same("the result stays", Checks.tree(x, 2), SECOND);
        x.regress(200);
        restored(x, 40, 1, THIRD);
        Checks.keep(x, 40);
        Checks.same("the result stays behind a session", Checks.tree(x, 2), THIRD);
        x.prune(40);
        Checks.same("the result stays behind a prune", Checks.tree(x, 2), THIRD);
    }

    private static void noSession() {
        MirrorKeep x = new MirrorKeep();
        Checks.throwsState("no session", () -> x.restore(Integer.MAX_VALUE));
        Checks.keep(x, 0);
        Checks.same("an empty tree", x.restore(0), 0);
        Checks.throwsState("below 0", () -> x.restore(-1));
    }
}
