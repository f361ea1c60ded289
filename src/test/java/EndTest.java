/** Promise 3: the first n ready bytes come to the tape. */
public final class EndTest {
    public static void main(String[] args) {
        MirrorKeep x = new MirrorKeep();
        Checks.same("end(0)", x.end(0), 0);
        Checks.same("end(1)", x.end(1), 1);
        Checks.same("end(20)", x.end(20), 21);
        Checks.same("end(-1)", x.end(-1), MirrorKeep.NONE);
        Checks.same("end(21)", x.end(21), MirrorKeep.NONE);
        Checks.same("end(lowest)", x.end(Integer.MIN_VALUE), MirrorKeep.NONE);
        Checks.same("end(highest)", x.end(Integer.MAX_VALUE), MirrorKeep.NONE);
        Checks.same("nothing came", x.about(8), 21);
        full();
        behindEachOther();
        Checks.finish();
    }

    private static void full() {
        MirrorKeep x = new MirrorKeep();
        for (int i = 1; i <= 19; i++) {
            Checks.same("end(20)", x.end(20), 20 * i);
        }
        Checks.same("end(19)", x.end(19), 399);
        Checks.same("end(2) to 401", x.end(2), MirrorKeep.NONE);
        Checks.same("still 399", x.about(8), 399);
        Checks.same("end(1) to 400", x.end(1), 400);
        Checks.same("end(0) at 400", x.end(0), 400);
        Checks.same("end(1) at 400", x.end(1), MirrorKeep.NONE);
        Checks.same("still 400", x.about(8), 400);
    }

    private static void behindEachOther() {
        MirrorKeep x = new MirrorKeep();
        Checks.tape(x, "ab");
        Checks.tape(x, "c");
        x.make(1, 0, 0);
        Checks.same("bytes come behind those that are there", Checks.path(x, 0, 0), "abc");
    }
}
