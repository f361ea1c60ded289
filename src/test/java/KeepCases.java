/**
 * A test of MirrorKeep: each case has a new one, x, and short ways to fill it and to look at it. An object has 512
 * calls, and looking takes a call for each byte, so the trees that are looked at whole are small.
 */
abstract class KeepCases extends Cases {
    static final int NONE = MirrorKeep.NONE;
    static final int LOWEST = Integer.MIN_VALUE;
    static final int HIGHEST = Integer.MAX_VALUE;
    static final int FILE = 1;
    static final int DIRECTORY = 2;
    static final int LINK = 3;
    static final int SOURCE = 0;
    static final int MIRROR = 1;
    static final int RESULT = 2;
    static final int AT_REST = 0;
    static final int UNDER_WAY = 1;
    static final int BROKEN = 2;

    private static final int MOST_SHOWN = 12;
    // So that a look ends even if the program never answers NONE.
    private static final int MOST_LOOKED_AT = 200;

    final MirrorKeep x = new MirrorKeep();

    /** Puts the text's bytes behind those on the tape, as README.md shows it. */
    void tape(String text) {
        Example.tape(x, text);
    }

    /** Puts that many zeros behind those on the tape, in few calls. */
    void zeros(int n) {
        for (int left = n; left > 0; left -= 20) {
            x.end(Math.min(20, left));
        }
    }

    int make(String path, int kind, int mode, int time) {
        tape(path);
        return x.make(kind, mode, time);
    }

    int file(String path) {
        return make(path, FILE, 0, 0);
    }

    int directory(String path) {
        return make(path, DIRECTORY, 0, 0);
    }

    int link(String path) {
        return make(path, LINK, 0, 0);
    }

    void fileOf(String path, String content) {
        file(path);
        write(0, content);
    }

    int choose(String path) {
        tape(path);
        return x.choose();
    }

    int write(int at, String bytes) {
        tape(bytes);
        return x.write(at);
    }

    /** Makes the chosen entry's content, which is empty, that many zeros. */
    void fill(int length) {
        for (int at = 0; at < length; at += 400) {
            zeros(Math.min(400, length - at));
            x.write(at);
        }
    }

    void removeAt(String path) {
        choose(path);
        x.remove();
    }

    void files(String directory, int n) {
        for (int i = 1; i <= n; i++) {
            file(directory + "/" + i);
        }
    }

    /** Sixty entries: a directory of that name, which makes them easy to remove, and files in it. */
    void sixty(String name) {
        directory(name);
        files(name, 59);
    }

    /** A whole session of a time: how many operations it did. */
    int keep(int time) {
        x.begin(time);
        int did = x.step(200);
        return x.about(0) == AT_REST ? did : did + x.step(200);
    }

    void sessions(int n) {
        for (int i = 0; i < n; i++) {
            keep(i);
        }
    }

    /** A session of time 2 is under way: it will change a, remove b and make c, by nine operations. */
    void threeChanges() {
        fileOf("a", "one");
        fileOf("b", "two");
        keep(1);
        choose("a");
        write(0, "ONE");
        removeAt("b");
        make("c", DIRECTORY, 7, 7);
        x.begin(2);
    }

    /** That session, broken off behind so many operations. */
    void brokenBehind(int done) {
        threeChanges();
        x.step(done);
        x.crash();
    }

    /** Sessions of the times 10, 20 and 30, with three changes to the second and two to the third. */
    void threeSessions() {
        make("a", FILE, 1, 1);
        write(0, "one");
        keep(10);
        write(0, "ONE!");
        directory("d");
        link("d/l");
        write(0, "a");
        keep(20);
        x.remove();
        removeAt("a");
        keep(30);
    }

    /** A source of three entries, a mirror of two and a result of one. */
    void threeTrees() {
        make("docs", DIRECTORY, 493, 5);
        keep(1);
        make("docs/text", FILE, 420, 7);
        write(0, "hello\0w\u0080r\u00ff!");
        keep(2);
        make("a", LINK, 511, 1);
        write(0, "docs");
        x.restore(1);
    }

    /** A session of time 2 is under way: sixty entries below one directory will come, and sixty will go. */
    void mostChanges(String come, String go) {
        sixty(go);
        keep(1);
        removeAt(go);
        sixty(come);
        x.begin(2);
    }

    String path(int tree, int i) {
        return bytes(tree, i, true, x.entry(tree, i, 4));
    }

    String content(int tree, int i) {
        return bytes(tree, i, false, x.entry(tree, i, 3));
    }

    private String bytes(int tree, int i, boolean path, int length) {
        StringBuilder text = new StringBuilder();
        for (int k = 0; k < length; k++) {
            text.append((char) x.at(tree, i, path, k));
        }
        return text.toString();
    }

    private boolean isEntry(int tree, int i) {
        return i < MOST_LOOKED_AT && x.entry(tree, i, 0) != NONE;
    }

    /** The paths of a tree, with a blank between them. */
    String paths(int tree) {
        StringBuilder text = new StringBuilder();
        for (int i = 0; isEntry(tree, i); i++) {
            text.append(i == 0 ? "" : " ").append(path(tree, i));
        }
        return text.toString();
    }

    /** Path, kind, mode, time and content of each entry of a tree. */
    String tree(int tree) {
        StringBuilder text = new StringBuilder();
        for (int i = 0; isEntry(tree, i); i++) {
            text.append(i == 0 ? "" : "; ").append(path(tree, i));
            for (int what = 0; what < 3; what++) {
                text.append(' ').append(x.entry(tree, i, what));
            }
            text.append(' ').append(shortContent(tree, i));
        }
        return text.toString();
    }

    private String shortContent(int tree, int i) {
        int length = x.entry(tree, i, 3);
        String shown = bytes(tree, i, false, Math.min(length, MOST_SHOWN));
        return length == 0 ? "-" : length > MOST_SHOWN ? shown + ".." + length : shown;
    }

    /** All that can be told of x but for the tape. */
    String told() {
        StringBuilder text = new StringBuilder();
        for (int what = 0; what <= 7; what++) {
            text.append(x.about(what)).append(' ');
        }
        for (int tree = SOURCE; tree <= RESULT; tree++) {
            text.append("| ").append(tree(tree)).append(' ');
        }
        for (int i = 0; i < MOST_LOOKED_AT && x.session(i, 0) != NONE; i++) {
            text.append("| ").append(x.session(i, 0)).append(' ').append(x.session(i, 1));
        }
        return text.toString();
    }

    /** The call throws that, and all that can be told is as it was, the tape's length too. */
    void refused(String exception, String what, Runnable call) {
        refused(exception, what, call, x.about(8));
    }

    /** The call, which may put bytes on the tape first, throws that; all is as it was, but the tape is empty. */
    void refusedWithTape(String exception, String what, Runnable call) {
        refused(exception, what, call, 0);
    }

    private void refused(String exception, String what, Runnable call, int tapeThen) {
        String before = told();
        thrown(exception, what, call);
        same("all but the tape behind " + what, told(), before);
        same("the tape behind " + what, x.about(8), tapeThen);
    }

    /** What is chosen is the entry of that path and no other. */
    void isChosen(String path) {
        x.set(4001, 1000001);
        int found = 0;
        for (int i = 0; isEntry(SOURCE, i); i++) {
            if (x.entry(SOURCE, i, 1) == 4001) {
                found++;
                same("the path of what is chosen", path(SOURCE, i), path);
            }
        }
        same("how many are chosen", found, 1);
    }

    void nothingIsChosen() {
        thrown(STATE, "set(0, 0) with nothing chosen", () -> x.set(0, 0));
    }
}
