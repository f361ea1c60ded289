/** Promise 4: an entry of the tape's path comes to the source and is chosen. */
public final class MakeTest {
    private static final String LONGEST = "n".repeat(24);

    public static void main(String[] args) {
        ordinary();
        edges();
        wrongNumbers();
        wrongPaths();
        wrongPlaces();
        full();
        argumentAheadOfState();
        underWayFirst();
        refusalKeepsTheChoice();
        whileBroken();
        Checks.finish();
    }

    private static void ordinary() {
        MirrorKeep x = new MirrorKeep();
        Checks.same("make d", Checks.make(x, "d", 2, 493, 5), 1);
        Checks.same("the tape is empty then", x.about(8), 0);
        Checks.same("make d/f", Checks.make(x, "d/f", 1, 420, 7), 2);
        Checks.same("what is written goes to d/f", Checks.write(x, 0, "hey"), 3);
        Checks.same("make a", Checks.make(x, "a", 3, 511, 1), 3);
        Checks.same("the source", Checks.tree(x, 0), "a 3 511 1 -; d 2 493 5 -; d/f 1 420 7 hey");
        Checks.same("what is written goes to a", Checks.write(x, 0, "d/f"), 3);
        Checks.same("the source", Checks.tree(x, 0), "a 3 511 1 d/f; d 2 493 5 -; d/f 1 420 7 hey");
    }

    private static void edges() {
        MirrorKeep x = new MirrorKeep();
        Checks.same("highest mode and time", Checks.make(x, "a", 1, 4095, Integer.MAX_VALUE), 1);
        Checks.same("lowest mode and time", Checks.make(x, "b", 1, 0, 0), 2);
        Checks.same("they are told", Checks.tree(x, 0), "a 1 4095 2147483647 -; b 1 0 0 -");
        String path = LONGEST;
        for (int names = 1; names <= 6; names++) {
            Checks.same(names + " names of 24", Checks.directory(x, path), names + 2);
            path = path + "/" + LONGEST;
        }
        Checks.same("the longest path", x.entry(0, 7, 4), 149);
        String seven = path;
        Checks.throwsArgument("seven names", () -> Checks.file(x, seven));
        Checks.same("three dots", Checks.file(x, "..."), 9);
        Checks.same("dots and more", Checks.file(x, "..a"), 10);
        Checks.same("a name of other bytes", Checks.file(x, "\u0001\u00ff \\"), 11);
        Checks.same("d", Checks.directory(x, "d"), 12);
        Checks.same("d/...", Checks.file(x, "d/..."), 13);
    }

    private static void wrongNumbers() {
        MirrorKeep x = new MirrorKeep();
        int[][] wrong = {{0, 0, 0}, {4, 0, 0}, {-1, 0, 0}, {1, -1, 0}, {1, 4096, 0}, {1, 0, -1},
            {Integer.MAX_VALUE, 0, 0}, {1, Integer.MIN_VALUE, 0}, {1, 0, Integer.MIN_VALUE}};
        for (int[] w : wrong) {
            Checks.throwsArgument("make" + java.util.Arrays.toString(w), () -> Checks.make(x, "a", w[0], w[1], w[2]));
            Checks.same("the tape is empty then", x.about(8), 0);
        }
        Checks.same("none came", x.about(3), 0);
    }

    private static void wrongPaths() {
        MirrorKeep x = new MirrorKeep();
        Checks.directory(x, "d");
        String[] wrong = {"", "/", "/a", "a/", "d/", "d//a", ".", "..", "d/.", "d/..", "./a", "../a", "a\0b", "\0",
            LONGEST + "n", "d/" + LONGEST + "n", "1/2/3/4/5/6/7", "x".repeat(400), "//////", "d/./a", "d/\0"};
        for (String path : wrong) {
            Checks.throwsArgument("make " + path, () -> Checks.file(x, path));
            Checks.same("the tape is empty then", x.about(8), 0);
        }
        Checks.same("none came", x.about(3), 1);
    }

    private static void wrongPlaces() {
        MirrorKeep x = new MirrorKeep();
        Checks.directory(x, "d");
        Checks.file(x, "f");
        Checks.link(x, "l");
        String[] wrong = {"d", "f", "l", "f/a", "l/a", "e/a", "d/e/a", "dd/a"};
        for (String path : wrong) {
            Checks.throwsState("make " + path, () -> Checks.file(x, path));
            Checks.same("the tape is empty then", x.about(8), 0);
        }
        Checks.same("none came", Checks.paths(x, 0), "d f l");
    }

    private static void full() {
        MirrorKeep x = new MirrorKeep();
        for (int i = 1; i <= 60; i++) {
            Checks.same("entry " + i, Checks.file(x, "f" + i), i);
        }
        Checks.throwsState("entry 61", () -> Checks.file(x, "g"));
        Checks.same("entries", x.about(3), 60);
        Checks.choose(x, "f7");
        x.remove();
        Checks.same("there is room again", Checks.file(x, "g"), 60);
    }

    private static void argumentAheadOfState() {
        MirrorKeep x = new MirrorKeep();
        Checks.file(x, "f");
        Checks.throwsArgument("a wrong kind, and it is there", () -> Checks.make(x, "f", 4, 0, 0));
        Checks.throwsArgument("a wrong mode, and no directory", () -> Checks.make(x, "d/f", 1, 4096, 0));
        Checks.throwsArgument("no path, and no directory", () -> Checks.file(x, "d/"));
    }

    private static void underWayFirst() {
        MirrorKeep x = new MirrorKeep();
        x.begin(1);
        Checks.tape(x, "f");
        Checks.throwsState("make, under way", () -> x.make(1, 0, 0));
        Checks.throwsState("a wrong kind, under way", () -> x.make(0, -1, -1));
        Checks.same("the tape stays", x.about(8), 1);
        x.step(200);
        Checks.same("at rest again", x.make(1, 0, 0), 1);
    }

    private static void refusalKeepsTheChoice() {
        MirrorKeep x = new MirrorKeep();
        Checks.file(x, "m");
        Checks.throwsState("make m again", () -> Checks.file(x, "m"));
        Checks.throwsArgument("make ..", () -> Checks.file(x, ".."));
        x.set(1, 2);
        Checks.same("m is chosen still", Checks.tree(x, 0), "m 1 1 2 -");
        Checks.file(x, "a");
        x.set(3, 4);
        Checks.same("a is chosen", Checks.tree(x, 0), "a 1 3 4 -; m 1 1 2 -");
    }

    private static void whileBroken() {
        MirrorKeep x = new MirrorKeep();
        x.begin(1);
        x.step(1);
        x.crash();
        Checks.same("make while broken", Checks.file(x, "a"), 1);
    }
}
