/** The document's "Terms": names, paths, their ORDER, and what the repository has. */
public final class TermsTest extends KeepCases {
    private static final String NAMES = "NAMES: 1 to 24 bytes, none of them 0 or 47 (/), not . or .. alone.";
    private static final String PATHS = "PATHS: 1 to 6 names with / between.";
    private static final String ORDER =
        "ORDER of paths: name by name, byte by byte (0 .. 255); what is at an end first.";
    private static final String OWN = "each with a path of its own";
    private static final String TREE = "A TREE has at most 60 ENTRIES";
    private static final String CONTENT = "but for a DIRECTORY, CONTENT";
    private static final String DIRECTORIES = "In THE SOURCE each entry of a path of several names has a DIRECTORY with "
        + "the path of all names but the last.";
    private static final String SESSIONS =
        "SESSIONS, at most 40, each with a time and the tree that THE SOURCE was then";
    private static final String CALLS = "An object is used for at most 512 calls after it has been made";
    private static final String MIRRORED = "the mirror is that of the latest one, if none is under way or BROKEN";

    public static void main(String[] args) {
        run(TermsTest.class);
    }

    private void isPath(String path) {
        int entries = x.about(3);
        same("make of " + path, file(path), entries + 1);
        same("choose of " + path, choose(path), FILE);
    }

    private void isNoPath(String path) {
        refusedWithTape(ARGUMENT, "make of " + path, () -> file(path));
    }

    @Case(NAMES)
    void nameOf1ByteIsTaken() {
        isPath("n");
    }

    @Case(NAMES)
    void nameOf24BytesIsTaken() {
        isPath("n".repeat(24));
    }

    @Case(NAMES)
    void nameOf25BytesIsNone() {
        isNoPath("n".repeat(25));
    }

    @Case(NAMES)
    void nameOf400BytesIsNone() {
        isNoPath("n".repeat(400));
    }

    @Case(NAMES)
    void laterNameOf24BytesIsTaken() {
        directory("d");
        isPath("d/" + "n".repeat(24));
    }

    @Case(NAMES)
    void laterNameOf25BytesIsNone() {
        directory("d");
        isNoPath("d/" + "n".repeat(25));
    }

    @Case(NAMES)
    void earlierNameOf25BytesIsNone() {
        isNoPath("n".repeat(25) + "/a");
    }

    @Case(NAMES)
    void emptyNameIsNone() {
        isNoPath("/");
        isNoPath("//////");
    }

    @Case(NAMES)
    void emptyFirstNameIsNone() {
        isNoPath("/a");
    }

    @Case(NAMES)
    void emptyLastNameIsNone() {
        directory("d");
        isNoPath("d/");
    }

    @Case(NAMES)
    void emptyNameBetweenIsNone() {
        directory("d");
        isNoPath("d//a");
    }

    @Case(NAMES)
    void byte0IsInNoName() {
        isNoPath("\0");
        isNoPath("\0a");
        isNoPath("a\0b");
        isNoPath("a\0");
    }

    @Case(NAMES)
    void byte0IsInNoLaterName() {
        directory("d");
        isNoPath("d/\0");
        isNoPath("d/a\0");
    }

    @Case(NAMES)
    void bytesBeside0And47AreTaken() {
        isPath("\u0001");
        isPath("\u002e\u0030");
        isPath("\u0030");
        isPath("\u00ff");
    }

    @Case(NAMES)
    void everyByteBut0And47IsTaken() {
        for (int from = 1; from < 256; from += 24) {
            StringBuilder name = new StringBuilder();
            for (int b = from; b < Math.min(256, from + 24); b++) {
                name.append(b == 47 ? "" : String.valueOf((char) b));
            }
            isPath(name.toString());
        }
    }

    @Case(NAMES)
    void oneDotAloneIsNone() {
        isNoPath(".");
    }

    @Case(NAMES)
    void twoDotsAloneAreNone() {
        isNoPath("..");
    }

    @Case(NAMES)
    void dotsAloneAreNoLaterName() {
        directory("d");
        isNoPath("d/.");
        isNoPath("d/..");
    }

    @Case(NAMES)
    void dotsAloneAreNoEarlierName() {
        isNoPath("./a");
        isNoPath("../a");
    }

    @Case(NAMES)
    void threeDotsAreTaken() {
        isPath("...");
    }

    @Case(NAMES)
    void dotsBesideOtherBytesAreTaken() {
        isPath(".a");
        isPath("a.");
        isPath("..a");
        isPath("a..");
        isPath("-.");
    }

    @Case(PATHS)
    void emptyPathIsNone() {
        isNoPath("");
    }

    @Case(PATHS)
    void pathOf6NamesIsTaken() {
        directoriesDownTo("1/2/3/4/5");
        isPath("1/2/3/4/5/6");
    }

    @Case(PATHS)
    void pathOf7NamesIsNone() {
        directoriesDownTo("1/2/3/4/5/6");
        isNoPath("1/2/3/4/5/6/7");
    }

    @Case(PATHS)
    void pathOf149BytesIsTaken() {
        String name = "n".repeat(24);
        String directories = (name + "/").repeat(4) + name;
        directoriesDownTo(directories);
        isPath(directories + "/" + name);
        same("how long it is", x.entry(SOURCE, 5, 4), 149);
    }

    private void directoriesDownTo(String path) {
        for (int i = 0; i < path.length(); i++) {
            if (path.charAt(i) == '/') {
                directory(path.substring(0, i));
            }
        }
        directory(path);
    }

    @Case(ORDER)
    void bytesAreOrderedFrom0To255() {
        for (String path : new String[] {"\u00ff", "\u0080", "\u007f", "b", "a", "B", "\u0001"}) {
            file(path);
        }
        same("the source", paths(SOURCE), "\u0001 B a b \u007f \u0080 \u00ff");
    }

    @Case(ORDER)
    void laterBytesAreOrderedFrom0To255() {
        for (String path : new String[] {"n\u00ff", "n\u0001", "n\u0080", "n\u007f"}) {
            file(path);
        }
        same("the source", paths(SOURCE), "n\u0001 n\u007f n\u0080 n\u00ff");
    }

    @Case(ORDER)
    void nameAtItsEndIsFirst() {
        file("ab");
        file("a\u0001");
        file("a");
        same("the source", paths(SOURCE), "a a\u0001 ab");
    }

    @Case(ORDER)
    void pathAtItsEndIsFirst() {
        directory("d");
        directory("d/e");
        file("d/e/\u0001");
        file("d/\u0001");
        same("the source", paths(SOURCE), "d d/\u0001 d/e d/e/\u0001");
    }

    @Case(ORDER)
    void namesAreComparedOneByOne() {
        directory("d");
        for (String path : new String[] {"d0", "d.", "d-", "d\u0001", "d/z", "d/\u00ff", "c\u00ff"}) {
            file(path);
        }
        same("the source", paths(SOURCE), "c\u00ff d d/z d/\u00ff d\u0001 d- d. d0");
    }

    @Case(OWN)
    void pathsThatDifferInOneByteAreTwo() {
        isPath("ab");
        isPath("aB");
        isPath("a");
        isPath("abc");
        same("entries", x.about(3), 4);
    }

    @Case(TREE)
    void treeOf60EntriesIsFull() {
        directory("d");
        files("d", 58);
        same("the 60th entry", file("d/60"), 60);
        thrown(STATE, "the 61st entry", () -> file("d/61"));
        keep(1);
        same("entries of the mirror", x.about(4), 60);
        same("entries of the result", x.restore(1), 60);
    }

    @Case(CONTENT)
    void directoryHasNoContent() {
        directory("d");
        thrown(STATE, "write into a directory", () -> write(0, "a"));
        same("how long its content is", x.entry(SOURCE, 0, 3), 0);
        same("its first byte", x.at(SOURCE, 0, false, 0), NONE);
    }

    @Case(DIRECTORIES)
    void directoryOfEachLevelIsThere() {
        String path = "1/2/3/4/5/6";
        for (int length = 1; length < path.length(); length += 2) {
            thrown(STATE, "make of " + path, () -> file(path));
            directory(path.substring(0, length));
        }
        same("make of " + path, file(path), 6);
    }

    @Case(DIRECTORIES)
    void noEntryStaysWithoutItsDirectory() {
        directoriesDownTo("1/2/3/4/5/6");
        removeAt("1/2");
        same("the source", paths(SOURCE), "1");
        same("choose of 1/2/3", choose("1/2/3"), NONE);
        thrown(STATE, "make of 1/2/3", () -> file("1/2/3"));
    }

    @Case(SESSIONS)
    void sessionsTreeIsWhatTheSourceWasThen() {
        fileOf("f", "one");
        keep(1);
        write(0, "two");
        keep(2);
        x.set(5, 6);
        x.restore(1);
        same("the first tree", tree(RESULT), "f 1 0 0 one");
        x.restore(2);
        same("the second tree", tree(RESULT), "f 1 0 0 two");
    }

    @Case(SESSIONS)
    void sessionsAre40AtMost() {
        sessions(39);
        same("begin of the 40th", x.begin(39), 3);
        x.step(200);
        thrown(STATE, "begin of the 41st", () -> x.begin(40));
        same("sessions", x.about(1), 40);
    }

    @Case(CALLS)
    void call512IsAnsweredLikeTheOthers() {
        fileOf("f", "abc");
        int calls = 6;
        while (calls < 511) {
            x.differ();
            calls++;
        }
        same("the 512th call", x.begin(1), 5);
    }

    @Case(MIRRORED)
    void mirrorIsEmptyWithoutASession() {
        file("a");
        same("entries of the mirror", x.about(4), 0);
    }

    @Case(MIRRORED)
    void mirrorIsTheLatestSessionsTreeAtRest() {
        threeSessions();
        x.restore(30);
        same("the mirror", tree(MIRROR), tree(RESULT));
        file("new");
        same("the mirror, whatever the source is", tree(MIRROR), tree(RESULT));
    }

    @Case(MIRRORED)
    void mirrorIsTheLatestSessionsTreeBehindARegress() {
        brokenBehind(6);
        x.regress(200);
        x.restore(1);
        same("the mirror", tree(MIRROR), tree(RESULT));
    }
}
