/** Promise 10: a session of a time is under way, none of its operations is done. */
public final class BeginTest {
    public static void main(String[] args) {
        ordinary();
        countsAllKindsOfChanges();
        wrongTimes();
        wrongStates();
        full();
        mostOperations();
        Checks.finish();
    }

    private static void ordinary() {
        MirrorKeep x = new MirrorKeep();
        Checks.same("nothing to change", x.begin(0), 3);
        Checks.same("state", x.about(0), 1);
        Checks.same("operations done", x.about(2), 0);
        Checks.same("sessions", x.about(1), 0);
        x.step(200);
        Checks.directory(x, "d");
        Checks.file(x, "d/f");
        Checks.same("two new entries", x.begin(1), 7);
        Checks.same("the mirror is as it was", x.about(4), 0);
        Checks.same("no increments yet", x.about(7), 0);
    }

    private static void countsAllKindsOfChanges() {
        MirrorKeep x = new MirrorKeep();
        for (String path : new String[] {"a", "b", "c", "d", "e", "f"}) {
            Checks.file(x, path);
            Checks.write(x, 0, "one");
        }
        Checks.keep(x, 1);
        Checks.choose(x, "a");
        x.remove();
        Checks.link(x, "a");
        Checks.write(x, 0, "one");
        Checks.same("another kind", x.differ(), 1);
        Checks.choose(x, "b");
        x.set(1, 0);
        Checks.same("another mode", x.differ(), 2);
        Checks.choose(x, "c");
        x.set(0, 1);
        Checks.same("another time", x.differ(), 3);
        Checks.choose(x, "d");
        Checks.write(x, 0, "two");
        Checks.same("another content of one length", x.differ(), 4);
        Checks.choose(x, "e");
        x.cut(2);
        Checks.same("a shorter content", x.differ(), 5);
        Checks.same("begin", x.begin(2), 13);
        x.step(200);
        Checks.same("the mirror is the source", Checks.tree(x, 1), Checks.tree(x, 0));
    }

    private static void wrongTimes() {
        MirrorKeep x = new MirrorKeep();
        Checks.throwsArgument("below 0", () -> x.begin(-1));
        Checks.throwsArgument("lowest", () -> x.begin(Integer.MIN_VALUE));
        Checks.same("at rest still", x.about(0), 0);
        Checks.keep(x, 10);
        Checks.throwsArgument("the latest's", () -> x.begin(10));
        Checks.throwsArgument("earlier", () -> x.begin(9));
        Checks.throwsArgument("below 0", () -> x.begin(-1));
        x.begin(11);
        x.step(1);
        x.crash();
        x.regress(200);
        Checks.same("a session that was undone has no time", x.begin(11), 3);
        x.step(200);
        x.prune(11);
        Checks.throwsArgument("the latest's, behind a prune", () -> x.begin(11));
        Checks.keep(x, Integer.MAX_VALUE);
        Checks.throwsArgument("none is above the highest", () -> x.begin(Integer.MAX_VALUE));
    }

    private static void wrongStates() {
        MirrorKeep x = new MirrorKeep();
        x.begin(5);
        Checks.throwsState("under way", () -> x.begin(6));
        Checks.throwsState("under way, a wrong time", () -> x.begin(-1));
        x.step(1);
        x.crash();
        Checks.throwsState("broken", () -> x.begin(6));
        Checks.throwsState("broken, a wrong time", () -> x.begin(-1));
        x.regress(1);
        Checks.same("at rest", x.begin(0), 3);
    }

    private static void full() {
        MirrorKeep x = new MirrorKeep();
        for (int i = 0; i < 40; i++) {
            Checks.keep(x, i);
        }
        Checks.same("sessions", x.about(1), 40);
        Checks.throwsState("a 41st", () -> x.begin(40));
        Checks.throwsState("a 41st, a wrong time", () -> x.begin(-1));
        x.prune(1);
        Checks.same("room again", x.begin(40), 3);
        x.step(200);
        Checks.same("sessions", x.about(1), 40);
        Checks.same("the oldest", x.session(0, 0), 1);
        Checks.same("the latest", x.session(39, 0), 40);
    }

    private static void mostOperations() {
        MirrorKeep x = new MirrorKeep();
        Checks.sixty(x, "b");
        Checks.same("60 come", Checks.keep(x, 1), 123);
        Checks.choose(x, "b");
        x.remove();
        Checks.sixty(x, "a");
        Checks.same("60 come and 60 go", x.begin(2), 243);
    }
}
