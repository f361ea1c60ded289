/** Promise 1: a new object. */
public final class NewObjectTest extends KeepCases {
    private static final String NEW = "All trees are empty, no sessions, no tape, nothing is chosen.";

    public static void main(String[] args) {
        run(NewObjectTest.class);
    }

    private void isEmpty(int tree) {
        same("entries", x.about(3 + tree), 0);
        same("kind of the first", x.entry(tree, 0, 0), NONE);
        same("first byte of its path", x.at(tree, 0, true, 0), NONE);
        same("first byte of its content", x.at(tree, 0, false, 0), NONE);
    }

    @Case(NEW)
    void sourceIsEmpty() {
        isEmpty(SOURCE);
        same("bytes of content", x.about(6), 0);
    }

    @Case(NEW)
    void mirrorIsEmpty() {
        isEmpty(MIRROR);
    }

    @Case(NEW)
    void resultIsEmpty() {
        isEmpty(RESULT);
    }

    @Case(NEW)
    void mirrorAndSourceDoNotDiffer() {
        same("differ()", x.differ(), 0);
    }

    @Case(NEW)
    void thereAreNoSessions() {
        same("sessions", x.about(1), 0);
        same("time of the oldest", x.session(0, 0), NONE);
        same("increments", x.about(7), 0);
        thrown(STATE, "restore", () -> x.restore(HIGHEST));
    }

    @Case(NEW)
    void thereIsNoTape() {
        same("bytes on the tape", x.about(8), 0);
        same("end(0)", x.end(0), 0);
        thrown(ARGUMENT, "make of no path", () -> x.make(FILE, 0, 0));
    }

    @Case(NEW)
    void nothingIsChosenAtFirst() {
        thrown(STATE, "set", () -> x.set(0, 0));
        thrown(STATE, "cut", () -> x.cut(0));
        thrown(STATE, "write", () -> x.write(0));
        thrown(STATE, "remove", () -> x.remove());
    }

    @Case("Its STATE: 0 AT REST")
    void itIsAtRest() {
        same("state", x.about(0), AT_REST);
        same("operations done", x.about(2), 0);
        thrown(STATE, "step", () -> x.step(1));
        thrown(STATE, "crash", () -> x.crash());
        thrown(STATE, "regress", () -> x.regress(1));
    }

    @Case(NEW)
    void anotherObjectIsNewAllTheSame() {
        MirrorKeep other = new MirrorKeep();
        file("a");
        keep(1);
        x.restore(1);
        tape("b");
        for (int what = 0; what <= 8; what++) {
            same("about(" + what + ") of another object", other.about(what), 0);
        }
    }
}
