import java.util.Arrays;

/** A mirror that is kept of a tree of files, session by session, with what leads back to each earlier state. */
public final class MirrorKeep {
    public static final int NONE = -1;

    private static final int FILE = 1;
    private static final int DIRECTORY = 2;
    private static final int LINK = 3;

    private static final int AT_REST = 0;
    private static final int UNDER_WAY = 1;
    private static final int BROKEN = 2;

    private static final int MOST_MODE = 4095;
    private static final int MOST_ENTRIES = 60;
    private static final int MOST_OF_A_FILE = 1500;
    private static final int MOST_OF_A_LINK = 100;
    private static final int MOST_CONTENT = 4000;
    private static final int MOST_SESSIONS = 40;
    private static final int MOST_AT_ONCE = 200;

    private final Tape tape = new Tape();
    private final Tree source = new Tree();
    private final Tree mirror = new Tree();
    private final History history = new History();
    private final Changes changes = new Changes();
    // Rows of its own, because differ() may be asked while those of a session are still needed.
    private final Changes differences = new Changes();
    private Tree result = new Tree();
    private int chosen = NONE;
    private int state = AT_REST;
    private int sessionTime = 0;
    private int done = 0;

    public MirrorKeep() {
    }

    public void feed(int a, int b, int c, int d, int e) {
        int[] words = {a, b, c, d, e};
        tape.makeReady(words);
    }

    public int end(int n) {
        return tape.append(n);
    }

    public int make(int kind, int mode, int time) throws IllegalArgumentException, IllegalStateException {
        refuseWhileUnderWay();
        byte[] path = tape.takeAll();
        if (!isKind(kind) || !isMode(mode) || !isTime(time) || !Paths.isPath(path)) {
            throw new IllegalArgumentException("no kind, mode, time or path");
        }
        if (source.indexOf(path) != NONE || !hasItsDirectory(path) || source.size() >= MOST_ENTRIES) {
            throw new IllegalStateException("it is there, its directory is not, or the source is full");
        }
        source.put(new Entry(path, kind, mode, time, new byte[0]));
        chosen = source.indexOf(path);
        return source.size();
    }

    public int choose() {
        chosen = source.indexOf(tape.takeAll());
        Entry entry = source.entryAt(chosen);
        return entry == null ? NONE : entry.kind;
    }

    public int write(int at) throws IllegalArgumentException, IllegalStateException {
        refuseWhileUnderWay();
        byte[] bytes = tape.takeAll();
        Entry entry = chosenWithContent();
        int oldLength = entry.content.length;
        // As a long, because a place far outside must be too long, not wrap round.
        long newLength = Math.max((long) oldLength, (long) at + bytes.length);
        if (newLength > entry.mostContent() || source.contentLength() - oldLength + newLength > MOST_CONTENT) {
            throw new IllegalStateException("it would be too long, or all would be");
        }
        if (at < 0 || at > oldLength) {
            throw new IllegalArgumentException("no place in the content");
        }
        byte[] content = Arrays.copyOf(entry.content, (int) newLength);
        System.arraycopy(bytes, 0, content, at, bytes.length);
        source.put(entry.withContent(content));
        return content.length;
    }

    public void cut(int length) throws IllegalArgumentException, IllegalStateException {
        refuseWhileUnderWay();
        Entry entry = chosenWithContent();
        if (length < 0 || length > entry.content.length) {
            throw new IllegalArgumentException("no length to cut to");
        }
        source.put(entry.withContent(Arrays.copyOf(entry.content, length)));
    }

    public void set(int mode, int time) throws IllegalArgumentException, IllegalStateException {
        refuseWhileUnderWay();
        Entry entry = chosenEntry();
        if (!isMode(mode) || !isTime(time)) {
            throw new IllegalArgumentException("no mode or time");
        }
        source.put(entry.withModeAndTime(mode, time));
    }

    public int remove() throws IllegalStateException {
        refuseWhileUnderWay();
        int went = source.dropAllFrom(chosenEntry().path);
        chosen = NONE;
        return went;
    }

    public int begin(int time) throws IllegalArgumentException, IllegalStateException {
        refuseUnlessAtRest();
        if (history.size() >= MOST_SESSIONS) {
            throw new IllegalStateException("there are as many sessions as there may be");
        }
        Session latest = history.sessionAt(history.size() - 1);
        if (!isTime(time) || (latest != null && time <= latest.time)) {
            throw new IllegalArgumentException("no time behind the latest session");
        }
        changes.gather(mirror, source);
        sessionTime = time;
        state = UNDER_WAY;
        return operations();
    }

    public int step(int n) throws IllegalStateException, IllegalArgumentException {
        if (state != UNDER_WAY) {
            throw new IllegalStateException("no session is under way");
        }
        refuseTooMany(n);
        int steps = Math.min(n, operations() - done);
        for (int i = 0; i < steps; i++) {
            doNextOperation();
        }
        return steps;
    }

    public void crash() throws IllegalStateException {
        if (state != UNDER_WAY) {
            throw new IllegalStateException("no session is under way");
        }
        state = BROKEN;
    }

    public int regress(int n) throws IllegalStateException, IllegalArgumentException {
        if (state != BROKEN) {
            throw new IllegalStateException("the repository is not broken");
        }
        refuseTooMany(n);
        int steps = Math.min(n, done);
        for (int i = 0; i < steps; i++) {
            takeBackLastOperation();
        }
        if (done == 0) {
            state = AT_REST;
        }
        return steps;
    }

    public int restore(int time) throws IllegalStateException {
        refuseUnlessAtRest();
        Session session = history.sessionAt(history.latestNotAbove(time));
        if (session == null) {
            throw new IllegalStateException("there is no session so early");
        }
        // A session's tree never changes, so the result needs no copy of it.
        result = session.tree;
        return result.size();
    }

    public int prune(int time) throws IllegalStateException {
        refuseUnlessAtRest();
        return history.forgetAheadOf(history.latestNotAbove(time));
    }

    public int differ() {
        differences.gather(mirror, source);
        return differences.size();
    }

    public int entry(int tree, int i, int what) {
        Entry entry = entryOfTree(tree, i);
        if (entry == null) {
            return NONE;
        }
        switch (what) {
            case 0: return entry.kind;
            case 1: return entry.mode;
            case 2: return entry.time;
            case 3: return entry.content.length;
            case 4: return entry.path.length;
            default: return NONE;
        }
    }

    public int at(int tree, int i, boolean path, int k) {
        Entry entry = entryOfTree(tree, i);
        if (entry == null) {
            return NONE;
        }
        byte[] bytes = path ? entry.path : entry.content;
        return k < 0 || k >= bytes.length ? NONE : bytes[k] & 255;
    }

    public int about(int what) {
        switch (what) {
            case 0: return state;
            case 1: return history.size();
            case 2: return done;
            case 3: return source.size();
            case 4: return mirror.size();
            case 5: return result.size();
            case 6: return source.contentLength();
            case 7: return history.increments() + incrementsDone();
            case 8: return tape.length();
            default: return NONE;
        }
    }

    public int session(int i, int what) {
        Session session = history.sessionAt(i);
        if (session == null) {
            return NONE;
        }
        switch (what) {
            case 0: return session.time;
            case 1: return i == 0 ? NONE : session.changes;
            default: return NONE;
        }
    }

    private static boolean isKind(int kind) {
        return kind == FILE || kind == DIRECTORY || kind == LINK;
    }

    private static boolean isMode(int mode) {
        return mode >= 0 && mode <= MOST_MODE;
    }

    private static boolean isTime(int time) {
        return time >= 0;
    }

    private void refuseWhileUnderWay() {
        if (state == UNDER_WAY) {
            throw new IllegalStateException("a session is under way");
        }
    }

    private void refuseUnlessAtRest() {
        if (state != AT_REST) {
            throw new IllegalStateException("the repository is not at rest");
        }
    }

    private static void refuseTooMany(int n) {
        if (n < 0 || n > MOST_AT_ONCE) {
            throw new IllegalArgumentException("no number of operations");
        }
    }

    private boolean hasItsDirectory(byte[] path) {
        int length = Paths.directoryLength(path);
        if (length == NONE) {
            return true;
        }
        Entry directory = source.entryAt(source.indexOf(Arrays.copyOf(path, length)));
        return directory != null && directory.kind == DIRECTORY;
    }

    private Entry chosenEntry() {
        Entry entry = source.entryAt(chosen);
        if (entry == null) {
            throw new IllegalStateException("nothing is chosen");
        }
        return entry;
    }

    private Entry chosenWithContent() {
        Entry entry = chosenEntry();
        if (entry.kind == DIRECTORY) {
            throw new IllegalStateException("a directory is chosen");
        }
        return entry;
    }

    private Entry entryOfTree(int tree, int i) {
        switch (tree) {
            case 0: return source.entryAt(i);
            case 1: return mirror.entryAt(i);
            case 2: return result.entryAt(i);
            default: return null;
        }
    }

    // MARK, an INCREMENT and an UPDATE for each change, SNAPSHOT, COMMIT.
    private int operations() {
        return 2 * changes.size() + 3;
    }

    private int incrementsDone() {
        return Math.min(done / 2, changes.size());
    }

    // But for the updates and COMMIT, an operation shows only in how many are done.
    private void doNextOperation() {
        int change = changes.updatedBy(done);
        if (change != NONE) {
            mirror.replace(changes.before(change), changes.after(change));
        }
        done++;
        if (done == operations()) {
            commit();
        }
    }

    private void takeBackLastOperation() {
        done--;
        int change = changes.updatedBy(done);
        if (change != NONE) {
            mirror.replace(changes.after(change), changes.before(change));
        }
    }

    private void commit() {
        history.add(new Session(sessionTime, changes.size(), mirror.copy()));
        done = 0;
        state = AT_REST;
    }

    /** The bytes that are ready, and those on the tape. */
    private static final class Tape {
        private static final int MOST_READY = 20;
        private static final int MOST_BYTES = 400;

        private final byte[] ready = new byte[MOST_READY];
        private final byte[] bytes = new byte[MOST_BYTES];
        private int length = 0;

        int length() {
            return length;
        }

        void makeReady(int[] words) {
            for (int i = 0; i < ready.length && i / 4 < words.length; i++) {
                ready[i] = (byte) (words[i / 4] >>> (24 - 8 * (i % 4)));
            }
        }

        int append(int n) {
            if (n < 0 || n > ready.length || n > bytes.length - length) {
                return NONE;
            }
            System.arraycopy(ready, 0, bytes, length, n);
            Arrays.fill(ready, (byte) 0);
            length += n;
            return length;
        }

        byte[] takeAll() {
            byte[] taken = Arrays.copyOf(bytes, length);
            length = 0;
            return taken;
        }
    }

    /** What can be said of paths, which are bytes. */
    private static final class Paths {
        private static final int MOST_NAMES = 6;
        private static final int MOST_OF_A_NAME = 24;
        private static final int SLASH = 47;
        private static final int DOT = 46;

        static boolean isPath(byte[] path) {
            int names = 0;
            int start = 0;
            for (int i = 0; i <= path.length; i++) {
                if (i == path.length || path[i] == SLASH) {
                    if (!isName(path, start, i)) {
                        return false;
                    }
                    names++;
                    start = i + 1;
                }
            }
            return names <= MOST_NAMES;
        }

        private static boolean isName(byte[] path, int start, int end) {
            int length = end - start;
            int dots = 0;
            for (int i = start; i < end; i++) {
                if (path[i] == 0) {
                    return false;
                }
                if (path[i] == DOT) {
                    dots++;
                }
            }
            boolean onlyDots = dots == length && length <= 2;
            return length >= 1 && length <= MOST_OF_A_NAME && !onlyDots;
        }

        /** Below 0, 0 or above 0, as one path is ahead of the other, the same, or behind it in ORDER. */
        static int compare(byte[] one, byte[] other) {
            int longest = Math.max(one.length, other.length);
            for (int i = 0; i < longest; i++) {
                int difference = rank(one, i) - rank(other, i);
                if (difference != 0) {
                    return difference;
                }
            }
            return 0;
        }

        // A path's end is ahead of a name's end, and that is ahead of every byte, even of a 0 on the tape.
        private static int rank(byte[] path, int i) {
            if (i < 0 || i >= path.length) {
                return -2;
            }
            return path[i] == SLASH ? -1 : path[i] & 255;
        }

        static boolean isOrIsBelow(byte[] path, byte[] above) {
            if (path.length < above.length) {
                return false;
            }
            for (int i = 0; i < above.length; i++) {
                if (path[i] != above[i]) {
                    return false;
                }
            }
            return path.length == above.length || path[above.length] == SLASH;
        }

        /** How long the path of all names but the last is; NONE of a path of one name. */
        static int directoryLength(byte[] path) {
            for (int i = path.length - 1; i >= 0; i--) {
                if (path[i] == SLASH) {
                    return i;
                }
            }
            return NONE;
        }
    }

    /** An entry as it was at some time: it never changes, so that several trees can hold it. */
    private static final class Entry {
        private final byte[] path;
        private final int kind;
        private final int mode;
        private final int time;
        private final byte[] content;

        Entry(byte[] path, int kind, int mode, int time, byte[] content) {
            this.path = path;
            this.kind = kind;
            this.mode = mode;
            this.time = time;
            this.content = content;
        }

        Entry withContent(byte[] newContent) {
            return new Entry(path, kind, mode, time, newContent);
        }

        Entry withModeAndTime(int newMode, int newTime) {
            return new Entry(path, kind, newMode, newTime, content);
        }

        int mostContent() {
            return kind == LINK ? MOST_OF_A_LINK : MOST_OF_A_FILE;
        }

        boolean isLike(Entry other) {
            return kind == other.kind && mode == other.mode && time == other.time && hasContent(other.content);
        }

        private boolean hasContent(byte[] bytes) {
            if (content.length != bytes.length) {
                return false;
            }
            for (int i = 0; i < content.length; i++) {
                if (content[i] != bytes[i]) {
                    return false;
                }
            }
            return true;
        }
    }

    /** Entries in ORDER of their paths, each path once. */
    private static final class Tree {
        // In a session the mirror may have all that is to go and all that has come.
        private static final int ROOM = 2 * MOST_ENTRIES;

        private final Entry[] entries = new Entry[ROOM];
        private int count = 0;

        int size() {
            return count;
        }

        Entry entryAt(int i) {
            return i < 0 || i >= count ? null : entries[i];
        }

        int indexOf(byte[] path) {
            int place = placeOf(path);
            return holds(place, path) ? place : NONE;
        }

        int contentLength() {
            int length = 0;
            for (int i = 0; i < count; i++) {
                length += entries[i].content.length;
            }
            return length;
        }

        /** The entry comes to the tree, in place of the one of its path if there is one. */
        void put(Entry entry) {
            int place = placeOf(entry.path);
            if (holds(place, entry.path)) {
                entries[place] = entry;
            } else if (count < ROOM) {
                System.arraycopy(entries, place, entries, place + 1, count - place);
                entries[place] = entry;
                count++;
            }
        }

        /** What was becomes what is to be, both of one path; null stands for no entry. */
        void replace(Entry old, Entry now) {
            if (now != null) {
                put(now);
            } else if (old != null) {
                drop(old.path);
            }
        }

        /** The entry of a path and all below it go: how many. */
        int dropAllFrom(byte[] path) {
            int kept = 0;
            for (int i = 0; i < count; i++) {
                if (!Paths.isOrIsBelow(entries[i].path, path)) {
                    entries[kept] = entries[i];
                    kept++;
                }
            }
            int went = count - kept;
            count = kept;
            return went;
        }

        Tree copy() {
            Tree other = new Tree();
            System.arraycopy(entries, 0, other.entries, 0, count);
            other.count = count;
            return other;
        }

        private void drop(byte[] path) {
            int place = placeOf(path);
            if (holds(place, path)) {
                count--;
                System.arraycopy(entries, place + 1, entries, place, count - place);
            }
        }

        private int placeOf(byte[] path) {
            int place = 0;
            while (place < count && Paths.compare(entries[place].path, path) < 0) {
                place++;
            }
            return place;
        }

        private boolean holds(int place, byte[] path) {
            return place < count && Paths.compare(entries[place].path, path) == 0;
        }
    }

    /** The CHANGES between two trees, in ORDER: what was and what is to be, null where there is no entry. */
    private static final class Changes {
        // Of a BROKEN session's mirror two trees may be there, and the source may be a third by then.
        private static final int ROOM = 3 * MOST_ENTRIES;

        private final Entry[] olds = new Entry[ROOM];
        private final Entry[] news = new Entry[ROOM];
        private int count = 0;

        int size() {
            return count;
        }

        Entry before(int change) {
            return change < 0 || change >= count ? null : olds[change];
        }

        Entry after(int change) {
            return change < 0 || change >= count ? null : news[change];
        }

        /** Which change has its UPDATE as that operation of a session (0 is MARK); NONE for another operation. */
        int updatedBy(int operation) {
            int change = operation / 2 - 1;
            return operation % 2 == 0 && change >= 0 && change < count ? change : NONE;
        }

        void gather(Tree from, Tree to) {
            count = 0;
            int i = 0;
            int j = 0;
            int turns = from.size() + to.size();
            for (int turn = 0; turn < turns; turn++) {
                Entry old = from.entryAt(i);
                Entry now = to.entryAt(j);
                int order = compare(old, now);
                if (order <= 0) {
                    i++;
                }
                if (order >= 0) {
                    j++;
                }
                note(order <= 0 ? old : null, order >= 0 ? now : null);
            }
        }

        private static int compare(Entry old, Entry now) {
            // null is what a tree has behind its last entry.
            if (old == null) {
                return 1;
            }
            return now == null ? -1 : Paths.compare(old.path, now.path);
        }

        private void note(Entry old, Entry now) {
            if (isChange(old, now) && count < ROOM) {
                olds[count] = old;
                news[count] = now;
                count++;
            }
        }

        private static boolean isChange(Entry old, Entry now) {
            // Trees share entries that did not change, and then their contents need no look.
            if (old == now) {
                return false;
            }
            return old == null || now == null || !old.isLike(now);
        }
    }

    /** A session that counts, with the tree that the source was then. */
    private static final class Session {
        private final int time;
        private final int changes;
        private final Tree tree;

        Session(int time, int changes, Tree tree) {
            this.time = time;
            this.changes = changes;
            this.tree = tree;
        }
    }

    /** The sessions that there are, the oldest first. */
    private static final class History {
        private final Session[] sessions = new Session[MOST_SESSIONS];
        private int count = 0;

        int size() {
            return count;
        }

        Session sessionAt(int i) {
            return i < 0 || i >= count ? null : sessions[i];
        }

        void add(Session session) {
            if (count < sessions.length) {
                sessions[count] = session;
                count++;
            }
        }

        int latestNotAbove(int time) {
            for (int i = count - 1; i >= 0; i--) {
                if (sessions[i].time <= time) {
                    return i;
                }
            }
            return NONE;
        }

        /** Session i is the oldest one then: how many were ahead of it. */
        int forgetAheadOf(int i) {
            if (i <= 0 || i >= count) {
                return 0;
            }
            count -= i;
            System.arraycopy(sessions, i, sessions, 0, count);
            return i;
        }

        // Those of the oldest session lead back to no session, so they do not count.
        int increments() {
            int increments = 0;
            for (int i = 1; i < count; i++) {
                increments += sessions[i].changes;
            }
            return increments;
        }
    }
}
