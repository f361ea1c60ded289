/** Promise 16: differ. */
public final class DifferTest extends KeepCases {
    private static final String DIFFER = "How many CHANGES there are between mirror and source.";
    private static final String CHANGE = "A CHANGE is a path that one of mirror and source has, or both have with "
        + "another KIND, MODE, TIME or content.";

    public static void main(String[] args) {
        run(DifferTest.class);
    }

    /** A file of the mirror and of the source, which is chosen. */
    private void keptFile() {
        make("f", FILE, 1, 1);
        write(0, "abc");
        keep(1);
        same("none at first", x.differ(), 0);
    }

    @Case(DIFFER)
    void emptyTreesDoNotDiffer() {
        same("differ()", x.differ(), 0);
    }

    @Case(DIFFER)
    void sameTreesDoNotDiffer() {
        keptFile();
        directory("d");
        link("d/l");
        keep(2);
        same("differ()", x.differ(), 0);
    }

    @Case(DIFFER)
    void sixtyCame() {
        sixty("d");
        same("differ()", x.differ(), 60);
    }

    @Case(DIFFER)
    void sixtyWent() {
        sixty("d");
        keep(1);
        removeAt("d");
        same("differ()", x.differ(), 60);
    }

    @Case(DIFFER)
    void sixtyCameAndSixtyWent() {
        mostChanges("b", "a");
        same("differ()", x.differ(), 120);
    }

    @Case(DIFFER)
    void mirrorOf120AndAnotherSource() {
        mostChanges("x", "y");
        x.step(121);
        x.crash();
        removeAt("x");
        directory("z");
        files("z", 29);
        same("differ()", x.differ(), 150);
        same("regress(200)", x.regress(200), 121);
        same("differ()", x.differ(), 90);
    }

    @Case(DIFFER)
    void underWayTheMirrorIsAsItIs() {
        threeChanges();
        int[] left = {3, 3, 3, 2, 2, 1, 1, 0, 0};
        for (int done = 0; done < left.length; done++) {
            same("behind " + done + " operations", x.differ(), left[done]);
            x.step(1);
        }
        same("changes to the session", x.session(1, 1), 3);
        same("at rest", x.differ(), 0);
    }

    @Case(DIFFER)
    void brokenTheMirrorIsAsItIs() {
        brokenBehind(5);
        same("broken", x.differ(), 1);
        x.regress(1);
        same("an update is taken back", x.differ(), 2);
        x.regress(200);
        same("at rest", x.differ(), 3);
    }

    @Case(DIFFER)
    void askingChangesNothing() {
        threeChanges();
        x.step(3);
        String before = told();
        x.differ();
        same("all", told(), before);
        same("the rest of the session", x.step(200), 6);
        same("changes to it", x.session(1, 1), 3);
    }

    @Case(CHANGE)
    void pathThatOnlyTheSourceHas() {
        keptFile();
        file("g");
        same("differ()", x.differ(), 1);
    }

    @Case(CHANGE)
    void pathThatOnlyTheMirrorHas() {
        keptFile();
        x.remove();
        same("differ()", x.differ(), 1);
    }

    @Case(CHANGE)
    void anotherKind() {
        file("f");
        keep(1);
        x.remove();
        link("f");
        same("a link for a file", x.differ(), 1);
        x.remove();
        directory("f");
        same("a directory for a file", x.differ(), 1);
        x.remove();
        file("f");
        same("a file again", x.differ(), 0);
    }

    @Case(CHANGE)
    void anotherMode() {
        keptFile();
        x.set(2, 1);
        same("differ()", x.differ(), 1);
        x.set(1, 1);
        same("as it was", x.differ(), 0);
    }

    @Case(CHANGE)
    void anotherTime() {
        keptFile();
        x.set(1, 2);
        same("differ()", x.differ(), 1);
        x.set(1, 1);
        same("as it was", x.differ(), 0);
    }

    @Case(CHANGE)
    void anotherFirstByte() {
        keptFile();
        write(0, "A");
        same("differ()", x.differ(), 1);
        write(0, "a");
        same("as it was", x.differ(), 0);
    }

    @Case(CHANGE)
    void anotherLastByte() {
        keptFile();
        write(2, "C");
        same("differ()", x.differ(), 1);
        write(2, "c");
        same("as it was", x.differ(), 0);
    }

    @Case(CHANGE)
    void byteMore() {
        keptFile();
        write(3, "\0");
        same("differ()", x.differ(), 1);
        x.cut(3);
        same("as it was", x.differ(), 0);
    }

    @Case(CHANGE)
    void byteLess() {
        keptFile();
        x.cut(2);
        same("differ()", x.differ(), 1);
        write(2, "c");
        same("as it was", x.differ(), 0);
    }

    @Case(CHANGE)
    void noContentAnyMore() {
        keptFile();
        x.cut(0);
        same("differ()", x.differ(), 1);
    }

    @Case(CHANGE)
    void severalInOneEntryAreOne() {
        keptFile();
        x.set(2, 2);
        x.cut(1);
        same("differ()", x.differ(), 1);
    }

    @Case(CHANGE)
    void sameEntryMadeAnewIsNone() {
        keptFile();
        x.remove();
        make("f", FILE, 1, 1);
        write(0, "abc");
        same("differ()", x.differ(), 0);
        same("operations", x.begin(2), 3);
    }
}
