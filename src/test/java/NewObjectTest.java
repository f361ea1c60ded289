/** Promise 1: all trees are empty, no sessions, no tape, nothing is chosen. */
public final class NewObjectTest {
    public static void main(String[] args) {
        MirrorKeep x = new MirrorKeep();
        for (int what = 0; what <= 8; what++) {
            Checks.same("about(" + what + ")", x.about(what), 0);
        }
        for (int tree = 0; tree <= 2; tree++) {
            Checks.same("kind of the first entry of tree " + tree, x.entry(tree, 0, 0), MirrorKeep.NONE);
            Checks.same("first byte of tree " + tree, x.at(tree, 0, true, 0), MirrorKeep.NONE);
        }
        Checks.same("time of session 0", x.session(0, 0), MirrorKeep.NONE);
        Checks.same("differ()", x.differ(), 0);
        Checks.throwsState("remove() with nothing chosen", () -> x.remove());
        Checks.throwsState("set() with nothing chosen", () -> x.set(0, 0));
        Checks.throwsState("step() with no session", () -> x.step(1));
        Checks.throwsState("restore() with no session", () -> x.restore(0));
        Checks.same("end(0): the tape is empty", x.end(0), 0);
        objectsAreApart();
        Checks.finish();
    }

    private static void objectsAreApart() {
        MirrorKeep one = new MirrorKeep();
        Checks.file(one, "a");
        Checks.keep(one, 1);
        Checks.tape(one, "b");
        MirrorKeep other = new MirrorKeep();
        Checks.same("entries of another source", other.about(3), 0);
        Checks.same("sessions of another", other.about(1), 0);
        Checks.same("tape of another", other.about(8), 0);
    }
}
