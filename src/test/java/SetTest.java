/** Promise 8: the chosen entry's MODE and TIME. */
public final class SetTest {
    public static void main(String[] args) {
        MirrorKeep x = new MirrorKeep();
        Checks.throwsState("nothing chosen", () -> x.set(0, 0));
        Checks.throwsState("nothing chosen, a wrong mode", () -> x.set(-1, 0));
        Checks.make(x, "f", 1, 1, 2);
        Checks.write(x, 0, "abc");
        x.set(4095, Integer.MAX_VALUE);
        Checks.same("highest", Checks.tree(x, 0), "f 1 4095 2147483647 abc");
        x.set(0, 0);
        Checks.same("lowest", Checks.tree(x, 0), "f 1 0 0 abc");
        int[][] wrong = {{-1, 5}, {4096, 5}, {5, -1}, {Integer.MIN_VALUE, 5}, {Integer.MAX_VALUE, 5},
            {5, Integer.MIN_VALUE}};
        for (int[] w : wrong) {
            Checks.throwsArgument("set" + java.util.Arrays.toString(w), () -> x.set(w[0], w[1]));
        }
        Checks.same("nothing changed", Checks.tree(x, 0), "f 1 0 0 abc");
        Checks.directory(x, "d");
        x.set(7, 8);
        Checks.link(x, "l");
        x.set(9, 10);
        Checks.same("all kinds", Checks.tree(x, 0), "d 2 7 8 -; f 1 0 0 abc; l 3 9 10 -");
        inASession(x);
        Checks.finish();
    }

    private static void inASession(MirrorKeep x) {
        Checks.keep(x, 1);
        x.set(11, 12);
        Checks.same("the mirror is as it was", Checks.tree(x, 1), "d 2 7 8 -; f 1 0 0 abc; l 3 9 10 -");
        x.begin(2);
        Checks.throwsState("under way", () -> x.set(0, 0));
        Checks.throwsState("under way, a wrong time", () -> x.set(0, -1));
        x.crash();
        x.set(13, 14);
        Checks.same("broken", Checks.tree(x, 0), "d 2 7 8 -; f 1 0 0 abc; l 3 13 14 -");
    }
}
