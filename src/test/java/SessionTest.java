/** Promise 20: what is told of a session. */
public final class SessionTest {
    public static void main(String[] args) {
        MirrorKeep x = RestoreTest.threeSessions();
        told(x, 0, 10, MirrorKeep.NONE);
        told(x, 1, 20, 3);
        told(x, 2, 30, 2);
        none(x);
        Checks.keep(x, 31);
        told(x, 3, 31, 0);
        notYet(x);
        x.prune(25);
        told(x, 0, 20, MirrorKeep.NONE);
        told(x, 1, 30, 2);
        told(x, 2, 31, 0);
        told(x, 3, MirrorKeep.NONE, MirrorKeep.NONE);
        Checks.finish();
    }

    private static void told(MirrorKeep x, int i, int time, int changes) {
        Checks.same("time of session " + i, x.session(i, 0), time);
        Checks.same("changes of session " + i, x.session(i, 1), changes);
    }

    private static void none(MirrorKeep x) {
        int[][] wrong = {{-1, 0}, {3, 0}, {3, 1}, {40, 0}, {Integer.MIN_VALUE, 0}, {Integer.MAX_VALUE, 0}, {0, 2},
            {0, -1}, {1, 2}, {1, -1}, {1, Integer.MAX_VALUE}, {1, Integer.MIN_VALUE}};
        for (int[] w : wrong) {
            Checks.same("session" + java.util.Arrays.toString(w), x.session(w[0], w[1]), MirrorKeep.NONE);
        }
    }

    private static void notYet(MirrorKeep x) {
        Checks.file(x, "new");
        x.begin(50);
        x.step(4);
        told(x, 4, MirrorKeep.NONE, MirrorKeep.NONE);
        x.crash();
        told(x, 4, MirrorKeep.NONE, MirrorKeep.NONE);
        x.regress(200);
        told(x, 4, MirrorKeep.NONE, MirrorKeep.NONE);
        told(x, 3, 31, 0);
    }
}
