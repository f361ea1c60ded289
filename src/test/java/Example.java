import java.nio.charset.StandardCharsets;

/** Keeps a small tree, breaks a session off, takes back what it did, and looks back. */
public final class Example {
    public static void main(String[] args) {
        MirrorKeep keep = new MirrorKeep();
        tape(keep, "docs");
        keep.make(2, 0755, 5);               // a DIRECTORY comes to the source
        tape(keep, "docs/text");
        keep.make(1, 0644, 7);               // a FILE in it, which is chosen then
        tape(keep, "first");
        keep.write(0);                       // its content
        System.out.println("operations: " + keep.begin(10));
        keep.step(200);                      // MARK, 2 INCREMENTS, 2 UPDATES, SNAPSHOT, COMMIT

        tape(keep, "second");
        keep.write(0);                       // the file is still chosen
        keep.begin(20);
        keep.step(3);                        // MARK, INCREMENT, UPDATE ..
        keep.crash();                        // .. and no more
        System.out.println("broken: " + content(keep, 1, 1));
        System.out.println("taken back: " + keep.regress(200));
        System.out.println("at rest: " + content(keep, 1, 1));

        keep.begin(20);
        keep.step(200);
        System.out.println("mirror: " + content(keep, 1, 1));
        keep.restore(15);                    // the result is the tree of the session of time 10
        System.out.println("as of 15: " + content(keep, 2, 1));
        System.out.println("forgotten: " + keep.prune(20));
        try {
            keep.restore(15);
        } catch (IllegalStateException e) {
            System.out.println("as of 15: no session");
        }
    }

    /** Brings a text's bytes to the tape, twenty at a time. */
    static void tape(MirrorKeep keep, String text) {
        byte[] bytes = text.getBytes(StandardCharsets.ISO_8859_1);
        for (int from = 0; from < bytes.length; from += 20) {
            int[] words = new int[5];
            int n = Math.min(20, bytes.length - from);
            for (int i = 0; i < n; i++) {
                words[i / 4] |= (bytes[from + i] & 255) << (24 - 8 * (i % 4));
            }
            keep.feed(words[0], words[1], words[2], words[3], words[4]);
            keep.end(n);
        }
    }

    /** The content of the i-th entry of a tree: 0 the source, 1 the mirror, 2 the result. */
    static String content(MirrorKeep keep, int tree, int i) {
        int length = keep.entry(tree, i, 3);
        StringBuilder text = new StringBuilder();
        for (int k = 0; k < length; k++) {
            text.append((char) keep.at(tree, i, false, k));
        }
        return text.toString();
    }
}
