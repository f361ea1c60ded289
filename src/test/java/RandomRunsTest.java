/** All promises at once: runs of calls that are drawn, answered by MirrorKeep and by Model. */
public final class RandomRunsTest extends Cases {
    private static final int RUNS = 3000;

    public static void main(String[] args) {
        run(RandomRunsTest.class);
    }

    @Case("An object is used for at most 512 calls after it has been made")
    void answersAreThoseOfTheModel() {
        for (int seed = 0; seed < RUNS; seed++) {
            same("run " + seed, new DrawnRun(seed).faults(), "");
        }
    }
}
