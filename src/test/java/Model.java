import java.util.ArrayList;
import java.util.Arrays;
import java.util.Comparator;
import java.util.List;
import java.util.TreeMap;
import java.util.TreeSet;

/** The document told once more, in the plainest way and with the Java library, to compare MirrorKeep with. */
final class Model {
    static final int NONE = -1;

    /** Texts hold a byte a character, names are texts, and paths are lists of names. */
    private static final Comparator<List<String>> ORDER = (one, other) -> {
        for (int i = 0; i < Math.min(one.size(), other.size()); i++) {
            int difference = one.get(i).compareTo(other.get(i));
            if (difference != 0) {
                return difference;
            }
        }
        return Integer.compare(one.size(), other.size());
    };

    private record Item(int kind, int mode, int time, String content) {
    }

    private record Change(List<String> path, Item old, Item now) {
    }

    private record Kept(int time, int changes, TreeMap<List<String>, Item> tree) {
    }

    /** One operation: how it is done in the mirror and taken back there. */
    private record Operation(char name, Change change) {
    }

    private final TreeMap<List<String>, Item> source = new TreeMap<>(ORDER);
    private final TreeMap<List<String>, Item> mirror = new TreeMap<>(ORDER);
    private TreeMap<List<String>, Item> result = new TreeMap<>(ORDER);
    private final List<Kept> sessions = new ArrayList<>();
    private List<Operation> operations = new ArrayList<>();
    private final List<Operation> finished = new ArrayList<>();
    private int state = 0;
    private int time = 0;
    private List<String> chosen = null;
    private String ready = "\0".repeat(20);
    private String tape = "";

    void feed(int... words) {
        StringBuilder text = new StringBuilder();
        for (int word : words) {
            for (int shift = 24; shift >= 0; shift -= 8) {
                text.append((char) (word >> shift & 255));
            }
        }
        ready = text.toString();
    }

    int end(int n) {
        if (n < 0 || n > 20 || tape.length() + n > 400) {
            return NONE;
        }
        tape += ready.substring(0, n);
        ready = "\0".repeat(20);
        return tape.length();
    }

    int make(int kind, int mode, int time) {
        state(state != 1);
        List<String> path = takePath();
        argument(kind >= 1 && kind <= 3 && mode >= 0 && mode <= 4095 && time >= 0 && path != null);
        state(!source.containsKey(path) && source.size() < 60);
        if (path.size() > 1) {
            Item directory = source.get(path.subList(0, path.size() - 1));
            state(directory != null && directory.kind == 2);
        }
        source.put(path, new Item(kind, mode, time, ""));
        chosen = path;
        return source.size();
    }

    int choose() {
        chosen = takePath();
        if (chosen == null || !source.containsKey(chosen)) {
            chosen = null;
            return NONE;
        }
        return source.get(chosen).kind;
    }

    int write(int at) {
        state(state != 1);
        String bytes = takeTape();
        state(chosen != null);
        Item item = source.get(chosen);
        state(item.kind != 2);
        String old = item.content;
        long length = Math.max(old.length(), (long) at + bytes.length());
        state(length <= (item.kind == 1 ? 1500 : 100) && contentOfAll() - old.length() + length <= 4000);
        argument(at >= 0 && at <= old.length());
        String tail = at + bytes.length() < old.length() ? old.substring(at + bytes.length()) : "";
        String content = old.substring(0, at) + bytes + tail;
        source.put(chosen, new Item(item.kind, item.mode, item.time, content));
        return content.length();
    }

    int cut(int length) {
        state(state != 1 && chosen != null);
        Item item = source.get(chosen);
        state(item.kind != 2);
        argument(length >= 0 && length <= item.content.length());
        source.put(chosen, new Item(item.kind, item.mode, item.time, item.content.substring(0, length)));
        return 0;
    }

    int set(int mode, int time) {
        state(state != 1 && chosen != null);
        argument(mode >= 0 && mode <= 4095 && time >= 0);
        Item item = source.get(chosen);
        source.put(chosen, new Item(item.kind, mode, time, item.content));
        return 0;
    }

    int remove() {
        state(state != 1 && chosen != null);
        int before = source.size();
        String gone = String.join("/", chosen);
        source.keySet().removeIf(p -> (String.join("/", p) + "/").startsWith(gone + "/"));
        chosen = null;
        return before - source.size();
    }

    int begin(int time) {
        state(state == 0 && sessions.size() < 40);
        argument(time >= 0 && (sessions.isEmpty() || time > sessions.get(sessions.size() - 1).time));
        operations = new ArrayList<>();
        operations.add(new Operation('M', null));
        for (Change change : changes()) {
            operations.add(new Operation('I', change));
            operations.add(new Operation('U', change));
        }
        operations.add(new Operation('S', null));
        operations.add(new Operation('C', null));
        finished.clear();
        this.time = time;
        state = 1;
        return operations.size();
    }

    int step(int n) {
        state(state == 1);
        argument(n >= 0 && n <= 200);
        int did = 0;
        while (did < n && state == 1) {
            Operation operation = operations.get(finished.size());
            finished.add(operation);
            if (operation.name == 'U') {
                turn(operation.change.path, operation.change.now);
            }
            if (operation.name == 'C') {
                commit();
            }
            did++;
        }
        return did;
    }

    int crash() {
        state(state == 1);
        state = 2;
        return 0;
    }

    int regress(int n) {
        state(state == 2);
        argument(n >= 0 && n <= 200);
        int did = 0;
        while (did < n && !finished.isEmpty()) {
            Operation operation = finished.remove(finished.size() - 1);
            if (operation.name == 'U') {
                turn(operation.change.path, operation.change.old);
            }
            did++;
        }
        if (finished.isEmpty()) {
            state = 0;
        }
        return did;
    }

    int restore(int time) {
        state(state == 0);
        Kept kept = null;
        for (Kept session : sessions) {
            kept = session.time <= time ? session : kept;
        }
        state(kept != null);
        result = new TreeMap<>(kept.tree);
        return result.size();
    }

    int prune(int time) {
        state(state == 0);
        int forgotten = 0;
        while (sessions.size() > 1 && sessions.get(1).time <= time) {
            sessions.remove(0);
            forgotten++;
        }
        return forgotten;
    }

    int differ() {
        return changes().size();
    }

    int entry(int tree, int i, int what) {
        List<String> path = path(tree, i);
        if (path == null) {
            return NONE;
        }
        Item item = tree(tree).get(path);
        int[] told = {item.kind, item.mode, item.time, item.content.length(), String.join("/", path).length()};
        return what >= 0 && what < told.length ? told[what] : NONE;
    }

    int at(int tree, int i, boolean ofPath, int k) {
        List<String> path = path(tree, i);
        if (path == null) {
            return NONE;
        }
        String bytes = ofPath ? String.join("/", path) : tree(tree).get(path).content;
        return k >= 0 && k < bytes.length() ? bytes.charAt(k) : NONE;
    }

    int about(int what) {
        int increments = 0;
        for (int i = 1; i < sessions.size(); i++) {
            increments += sessions.get(i).changes;
        }
        for (Operation operation : finished) {
            increments += operation.name == 'I' ? 1 : 0;
        }
        int[] told = {state, sessions.size(), finished.size(), source.size(), mirror.size(), result.size(),
            contentOfAll(), increments, tape.length()};
        return what >= 0 && what < told.length ? told[what] : NONE;
    }

    int session(int i, int what) {
        if (i < 0 || i >= sessions.size() || what < 0 || what > 1) {
            return NONE;
        }
        if (what == 0) {
            return sessions.get(i).time;
        }
        return i == 0 ? NONE : sessions.get(i).changes;
    }

    private static void state(boolean fine) {
        if (!fine) {
            throw new IllegalStateException();
        }
    }

    private static void argument(boolean fine) {
        if (!fine) {
            throw new IllegalArgumentException();
        }
    }

    private void turn(List<String> path, Item item) {
        if (item == null) {
            mirror.remove(path);
        } else {
            mirror.put(path, item);
        }
    }

    private void commit() {
        int changes = (finished.size() - 3) / 2;
        sessions.add(new Kept(time, changes, new TreeMap<>(source)));
        finished.clear();
        state = 0;
    }

    private List<Change> changes() {
        TreeSet<List<String>> paths = new TreeSet<>(ORDER);
        paths.addAll(mirror.keySet());
        paths.addAll(source.keySet());
        List<Change> changes = new ArrayList<>();
        for (List<String> path : paths) {
            Item old = mirror.get(path);
            Item now = source.get(path);
            if (old == null || !old.equals(now)) {
                changes.add(new Change(path, old, now));
            }
        }
        return changes;
    }

    private int contentOfAll() {
        return source.values().stream().mapToInt(item -> item.content.length()).sum();
    }

    private TreeMap<List<String>, Item> tree(int tree) {
        return tree == 0 ? source : tree == 1 ? mirror : tree == 2 ? result : new TreeMap<>(ORDER);
    }

    private List<String> path(int tree, int i) {
        List<List<String>> paths = new ArrayList<>(tree(tree).keySet());
        return i >= 0 && i < paths.size() ? paths.get(i) : null;
    }

    private String takeTape() {
        String taken = tape;
        tape = "";
        return taken;
    }

    private List<String> takePath() {
        List<String> names = Arrays.asList(takeTape().split("/", -1));
        for (String name : names) {
            boolean dots = name.equals(".") || name.equals("..");
            if (name.isEmpty() || name.length() > 24 || dots || name.indexOf('\0') >= 0) {
                return null;
            }
        }
        return names.size() <= 6 ? names : null;
    }
}
