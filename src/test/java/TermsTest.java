/** The document's "Terms": names, paths, their ORDER, and what the repository has. */
public final class TermsTest extends KeepCases {
    private static final String NAMES = "NAMES: 1 to 24 bytes, none of them 0 or 47 (/), not . or .. alone.";
    private static final String PATHS = "PATHS: 1 to 6 names with / between.";
    private static final String ORDER =
        "ORDER of paths: name by name, byte by byte (0 .. 255); what is at an end first.";
    private static final String OWN = "each with a path of its own";
    private static final String MIRRORED = "the mirror is that of the latest one, if none is under way or BROKEN";

    public static void main(String[] args) {
        run(TermsTest.class);
    }

    private void isPath(String path) {
        int entries = x.about(3);
        same("make of " + path, file(path), entries + 1);
        same("choose of " + path, choose(path), FILE);
    }

    private void isNoPath(String path) {
        refusedWithTape(ARGUMENT, "make of " + path, () -> file(path));
    }

    @Case(NAMES)
    void nameOf1ByteIsTaken() {
        isPath("n");
    }

    @Case(NAMES)
    void nameOf24BytesIsTaken() {
        isPath("n".repeat(24));
    }

    @Case(NAMES)
    void nameOf25BytesIsNone() {
        isNoPath("n".repeat(25));
    }

    @Case(NAMES)
    void nameOf400BytesIsNone() {
        isNoPath("n".repeat(400));
    }

    @Case(NAMES)
    void laterNameOf24BytesIsTaken() {
        directory("d");
        isPath("d/" + "n".repeat(24));
    }

    @Case(NAMES)
    void laterNameOf25BytesIsNone() {
        directory("d");
        isNoPath("d/" + "n".repeat(25));
    }

    @Case(NAMES)
    void earlierNameOf25BytesIsNone() {
        isNoPath("n".repeat(25) + "/a");
    }

    @Case(NAMES)
    void emptyNameIsNone() {
        isNoPath("/");
        isNoPath("//////");
    }

    @Case(NAMES)
    void emptyFirstNameIsNone() {
        isNoPath("/a");
    }

    @Case(NAMES)
    void emptyLastNameIsNone() {
        directory("d");
        isNoPath("d/");
    }

    @Case(NAMES)
    void emptyNameBetweenIsNone() {
        directory("d");
        isNoPath("d//a");
    }

    @Case(NAMES)
    void byte0IsInNoName() {
        isNoPath("\0");
        isNoPath("\0a");
        isNoPath("a\0b");
        isNoPath("a\0");
    }

    @Case(NAMES)
    void byte0IsInNoLaterName() {
        directory("d");
        isNoPath("d/\0");
        isNoPath("d/a\0");
    }

    @Case(NAMES)
    void bytesBeside0And47AreTaken() {
        isPath("\u0001");
        isPath("\u002e\u0030");
        isPath("\u0030");
        isPath("\u00ff");
    }

    @Case(NAMES)
    void everyByteBut0And47IsTaken() {
        for (int from = 1; from < 256; from += 24) {
            StringBuilder name = new StringBuilder();
            for (int b = from; b < Math.min(256, from + 24); b++) {
                name.append(b == 47 ? "" : String.valueOf((char) b));
            }
            isPath(name.toString());
        }
    }

    @Case(NAMES)
    void oneDotAloneIsNone() {
        isNoPath(".");
    }

    @Case(NAMES)
    void twoDotsAloneAreNone() {
        isNoPath("..");
    }

    @Case(NAMES)
    void dotsAloneAreNoLaterName() {
        directory("d");
        isNoPath("d/.");
        isNoPath("d/..");
    }

    @Case(NAMES)
    void dotsAloneAreNoEarlierName() {
        isNoPath("./a");
        isNoPath("../a");
    }

    @Case(NAMES)
    void threeDotsAreTaken() {
        isPath("...");
    }

    @Case(NAMES)
    void dotsBesideOtherBytesAreTaken() {
        isPath(".a");
        isPath("a.");
        isPath("..a");
        isPath("a..");
        isPath("-.");
    }

    @Case(PATHS)
    void emptyPathIsNone() {
        isNoPath("");
    }

    @Case(PATHS)
    void pathOf6NamesIsTaken() {
        directoriesDownTo("1/2/3/4/5");
        isPath("1/2/3/4/5/6");
    }

    @Case(PATHS)
    void pathOf7NamesIsNone() {
        directoriesDownTo("1/2/3/4/5/6");
        isNoPath("1/2/3/4/5/6/7");
    }

    @Case(PATHS)
    void pathOf149BytesIsTaken() {
        String name = "n".repeat(24);
        String directories = (name + "/").repeat(4) + name;
        directoriesDownTo(directories);
        isPath(directories + "/" + name);
        same("how long it is", x.entry(SOURCE, 5, 4), 149);
    }

    private void directoriesDownTo(String path) {
        for (int i = 0; i < path.length(); i++) {
            if (path.charAt(i) == '/') {
                directory(path.substring(0, i));
            }
        }
        directory(path);
    }

    @Case(ORDER)
    void bytesAreOrderedFrom0To255() {
        for (String path : new String[] {"\u00ff", "\u0080", "\u007f", "b", "a", "B", "\u0001"}) {
            file(path);
        }
        same("the source", paths(SOURCE), "\u0001 B a b \u007f \u0080 \u00ff");
    }

    @Case(ORDER)
    void laterBytesAreOrderedFrom0To255() {
        for (String path : new String[] {"n\u00ff", "n\u0001", "n\u0080", "n\u007f"}) {
            file(path);
        }
        same("the source", paths(SOURCE), "n\u0001 n\u007f n\u0080 n\u00ff");
    }

    @Case(ORDER)
    void nameAtItsEndIsFirst() {
        file("ab");
        file("a\u0001");
        file("a");
        same("the source", paths(SOURCE), "a a\u0001 ab");
    }

    @Case(ORDER)
    void pathAtItsEndIsFirst() {
        directory("d");
        directory("d/e");
        file("d/e/\u0001");
        file("d/\u0001");
        same("the source", paths(SOURCE), "d d/\u0001 d/e d/e/\u0001");
    }

    @Case(ORDER)
    void namesAreComparedOneByOne() {
        directory("d");
        for (String path : new String[] {"d0", "d.", "d-", "d\u0001", "d/z", "d/\u00ff", "c\u00ff"}) {
            file(path);
        }
        same("the source", paths(SOURCE), "c\u00ff d d/z d/\u00ff d\u0001 d- d. d0");
    }

    @Case(OWN)
    void pathsThatDifferInOneByteAreTwo() {
        isPath("ab");
        isPath("aB");
        isPath("a");
        isPath("abc");
        same("entries", x.about(3), 4);
    }

    @Case(MIRRORED)
    void mirrorIsEmptyWithoutASession() {
        file("a");
        same("entries of the mirror", x.about(4), 0);
    }

    @Case(MIRRORED)
    void mirrorIsTheLatestSessionsTreeAtRest() {
        threeSessions();
        x.restore(30);
        same("the mirror", tree(MIRROR), tree(RESULT));
        file("new");
        same("the mirror, whatever the source is", tree(MIRROR), tree(RESULT));
    }

    @Case(MIRRORED)
    void mirrorIsTheLatestSessionsTreeBehindARegress() {
        brokenBehind(6);
        x.regress(200);
        x.restore(1);
        same("the mirror", tree(MIRROR), tree(RESULT));
    }
}
