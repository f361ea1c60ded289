/** Promise 11: the session does its next operations, in the document's order. */
public final class StepTest {
    private static final String OLD = "a 1 0 0 one; b 1 0 0 two";
    private static final String NEW = "a 1 0 0 ONE; c 2 7 7 -";

    public static void main(String[] args) {
        oneByOne();
        inOrderOfPaths();
        asManyAsThereAre();
        wrong();
        moreThanTwoHundred();
        Checks.finish();
    }

    /** A session that changes a, removes b and makes c. */
    static MirrorKeep threeChanges() {
        MirrorKeep x = new MirrorKeep();
        Checks.file(x, "a");
        Checks.write(x, 0, "one");
        Checks.file(x, "b");
        Checks.write(x, 0, "two");
        Checks.keep(x, 1);
        Checks.choose(x, "a");
        Checks.write(x, 0, "ONE");
        Checks.choose(x, "b");
        x.remove();
        Checks.make(x, "c", 2, 7, 7);
        x.begin(2);
        return x;
    }

    private static void oneByOne() {
        MirrorKeep x = threeChanges();
        String[] mirrors = {OLD, OLD, "a 1 0 0 ONE; b 1 0 0 two", "a 1 0 0 ONE; b 1 0 0 two", "a 1 0 0 ONE",
            "a 1 0 0 ONE", NEW, NEW};
        int[] increments = {0, 1, 1, 2, 2, 3, 3, 3};
        for (int i = 0; i < mirrors.length; i++) {
            Checks.same("step(1)", x.step(1), 1);
            Checks.same("mirror behind operation " + (i + 1), Checks.tree(x, 1), mirrors[i]);
            Checks.same("increments behind operation " + (i + 1), x.about(7), increments[i]);
            Checks.same("operations done", x.about(2), i + 1);
            Checks.same("state", x.about(0), 1);
            Checks.same("sessions", x.about(1), 1);
        }
        Checks.same("COMMIT", x.step(1), 1);
        Checks.same("state", x.about(0), 0);
        Checks.same("operations done", x.about(2), 0);
        Checks.same("sessions", x.about(1), 2);
        Checks.same("mirror", Checks.tree(x, 1), NEW);
        Checks.same("increments", x.about(7), 3);
    }

    private static void inOrderOfPaths() {
        MirrorKeep x = new MirrorKeep();
        Checks.file(x, "a-");
        Checks.file(x, "b\u00ff");
        Checks.file(x, "b\u007f");
        Checks.directory(x, "a");
        Checks.file(x, "a/z");
        x.begin(1);
        String[] mirrors = {"a", "a a/z", "a a/z a-", "a a/z a- b\u007f", "a a/z a- b\u007f b\u00ff"};
        x.step(1);
        for (String mirror : mirrors) {
            x.step(2);
            Checks.same("mirror", Checks.paths(x, 1), mirror);
        }
    }

    private static void asManyAsThereAre() {
        MirrorKeep x = threeChanges();
        Checks.same("step(0)", x.step(0), 0);
        Checks.same("none is done", x.about(2), 0);
        Checks.same("step(4)", x.step(4), 4);
        Checks.same("step(200)", x.step(200), 5);
        Checks.throwsState("none is under way", () -> x.step(200));
    }

    private static void wrong() {
        MirrorKeep x = new MirrorKeep();
        Checks.throwsState("at rest", () -> x.step(1));
        Checks.throwsState("at rest, a wrong n", () -> x.step(-1));
        x.begin(1);
        int[] wrong = {-1, 201, Integer.MIN_VALUE, Integer.MAX_VALUE};
        for (int n : wrong) {
            Checks.throwsArgument("step(" + n + ")", () -> x.step(n));
        }
        Checks.same("none is done", x.about(2), 0);
        x.step(1);
        x.crash();
        Checks.throwsState("broken", () -> x.step(1));
        Checks.throwsState("broken, a wrong n", () -> x.step(201));
    }

    private static void moreThanTwoHundred() {
        MirrorKeep x = new MirrorKeep();
        Checks.sixty(x, "b");
        Checks.keep(x, 1);
        Checks.choose(x, "b");
        x.remove();
        Checks.sixty(x, "a");
        x.begin(2);
        x.step(121);
        Checks.same("all that came and all that will go", x.about(4), 120);
        Checks.same("the last entry", x.entry(1, 119, 0), 1);
        Checks.same("step(200)", x.step(200), 122);
        Checks.same("entries then", x.about(4), 60);
        Checks.same("changes left", x.differ(), 0);
        Checks.same("the last entry", Checks.path(x, 1, 59), "a/9");
    }
}
