import java.util.ArrayList;
import java.util.HashMap;
import java.util.LinkedHashMap;
import java.util.List;
import java.util.Map;
import java.util.TreeMap;

/**
 * The document told a second time, with the Java library and by other means than the program: texts go through
 * machines that are fed one character at a time, and the store keeps whole maps.
 */
final class Model {
    private static final int DOWN = -9;
    private static final int BAD = -1;

    private record Leaf(TreeMap<Integer, Object> documents) {
    }

    private record Root(Integer low, Integer high) {
    }

    private final StringBuilder text = new StringBuilder();
    private final Map<Integer, Object> pages = new HashMap<>();
    private final Integer[] metaRoot = new Integer[2];
    private final int[] metaNumber = new int[2];
    private final TreeMap<Integer, Integer> readers = new TreeMap<>();
    private List<Integer> resultIds = new ArrayList<>();
    private List<Object> resultValues = new ArrayList<>();
    private String output = "";
    private int fuse = -1;
    private int blocks = 0;
    private boolean stopped = false;

    /** Thrown right behind the block with which the machine stops. */
    private static final class Stop extends Exception {
        private static final long serialVersionUID = 1;
    }

    /** Thrown to end a call with an answer other than the ordinary one. */
    static final class Answer extends Exception {
        private static final long serialVersionUID = 1;
        final int code;

        Answer(int code) {
            this.code = code;
        }
    }

    int type(char c) {
        if (stopped) {
            return DOWN;
        }
        if (text.length() == 80) {
            return BAD;
        }
        return text.append(c).length();
    }

    int put(int id) {
        if (stopped) {
            return DOWN;
        }
        if (id < 0 || id > 7) {
            return BAD;
        }
        try {
            Object value = ModelText.value(takeText());
            change(id, value);
            return ModelValues.size(value);
        } catch (Answer a) {
            return a.code;
        }
    }

    int patch(int id) {
        if (stopped) {
            return DOWN;
        }
        if (!documents(currentRoot()).containsKey(id)) {
            return BAD;
        }
        try {
            Object list = ModelText.value(takeText());
            Object value = ModelValues.patched(documents(currentRoot()).get(id), list);
            change(id, value);
            return ModelValues.size(value);
        } catch (Answer a) {
            return a.code;
        }
    }

    int remove(int id) {
        if (stopped) {
            return DOWN;
        }
        if (!documents(currentRoot()).containsKey(id)) {
            return BAD;
        }
        try {
            change(id, null);
            return documents(currentRoot()).size();
        } catch (Answer a) {
            return a.code;
        }
    }

    int query(int r, int id) {
        if (stopped) {
            return DOWN;
        }
        if (r != -1 && !readers.containsKey(r)) {
            return BAD;
        }
        TreeMap<Integer, Object> seen = documents(r == -1 ? currentRoot() : readers.get(r));
        if (id != -1 && !seen.containsKey(id)) {
            return BAD;
        }
        resultIds = new ArrayList<>();
        resultValues = new ArrayList<>();
        try {
            List<ModelText.Segment> segments = ModelText.query(takeText());
            List<Integer> ids = new ArrayList<>();
            List<Object> values = new ArrayList<>();
            for (int each : seen.keySet()) {
                if (id == -1 || id == each) {
                    List<Object> row = ModelValues.select(seen.get(each), segments);
                    for (Object node : row) {
                        ids.add(each);
                        values.add(node);
                    }
                }
            }
            if (values.size() > 32) {
                return -6;
            }
            resultIds = ids;
            resultValues = values;
            return values.size();
        } catch (Answer a) {
            return a.code;
        }
    }

    int result(int i) {
        return i < 0 || i >= resultIds.size() ? BAD : resultIds.get(i);
    }

    int show(int i) {
        if (i < 0 || i >= resultIds.size()) {
            return BAD;
        }
        output = ModelValues.written(resultValues.get(i));
        return output.length();
    }

    int print(int r, int id) {
        if (stopped) {
            return DOWN;
        }
        if (r != -1 && !readers.containsKey(r)) {
            return BAD;
        }
        Object document = documents(r == -1 ? currentRoot() : readers.get(r)).get(id);
        if (document == null) {
            return BAD;
        }
        output = ModelValues.written(document);
        return output.length();
    }

    int output(int p) {
        return p < 0 || p >= output.length() ? BAD : output.charAt(p);
    }

    int open() {
        if (stopped) {
            return DOWN;
        }
        for (int r = 0; r < 3; r++) {
            if (!readers.containsKey(r)) {
                readers.put(r, currentRoot());
                return r;
            }
        }
        return BAD;
    }

    boolean close(int r) {
        if (stopped || !readers.containsKey(r)) {
            return false;
        }
        readers.remove(r);
        return true;
    }

    boolean fuse(int k) {
        if (stopped || k < 1 || k > 20) {
            return false;
        }
        fuse = k;
        return true;
    }

    boolean restart() {
        boolean was = stopped;
        stopped = false;
        return was;
    }

    int page(int n) {
        if (n < 0 || n > 11) {
            return BAD;
        }
        return reached().getOrDefault(n, 0);
    }

    int size(int what) {
        int current = metaNumber[0] >= metaNumber[1] ? 0 : 1;
        int[] all = {text.length(), documents(currentRoot()).size(), readers.size(), blocks, current,
            Math.max(metaNumber[0], metaNumber[1]), stopped ? 1 : 0};
        return what < 0 || what > 6 ? BAD : all[what];
    }

    /** Document id of the current meta, for tests that want to fit to it; null if there is none. */
    Object document(int id) {
        return documents(currentRoot()).get(id);
    }

    private String takeText() {
        String taken = text.toString();
        text.setLength(0);
        return taken;
    }

    private Integer currentRoot() {
        return metaNumber[0] >= metaNumber[1] ? metaRoot[0] : metaRoot[1];
    }

    private TreeMap<Integer, Object> documents(Integer root) {
        TreeMap<Integer, Object> all = new TreeMap<>();
        if (root != null) {
            Root page = (Root) pages.get(root);
            for (Integer leaf : new Integer[] {page.low, page.high}) {
                if (leaf != null) {
                    all.putAll(((Leaf) pages.get(leaf)).documents);
                }
            }
        }
        return all;
    }

    private Map<Integer, Integer> reached() {
        Map<Integer, Integer> uses = new HashMap<>();
        List<Integer> roots = new ArrayList<>(readers.values());
        roots.add(metaRoot[0]);
        roots.add(metaRoot[1]);
        for (Integer root : roots) {
            if (root != null) {
                uses.put(root, 1);
                Root page = (Root) pages.get(root);
                uses.put(page.low == null ? page.high : page.low, 2);
                uses.put(page.high == null ? page.low : page.high, 2);
            }
        }
        return uses;
    }

    private void change(int id, Object value) throws Answer {
        TreeMap<Integer, Object> all = documents(currentRoot());
        if (value == null) {
            all.remove(id);
        } else {
            all.put(id, value);
        }
        boolean low = id < 4;
        TreeMap<Integer, Object> half = new TreeMap<>(low ? all.headMap(4) : all.tailMap(4));
        List<Object> writes = new ArrayList<>();
        List<Integer> free = new ArrayList<>();
        for (int n = 0; n < 12; n++) {
            if (page(n) == 0) {
                free.add(n);
            }
        }
        if (!half.isEmpty()) {
            writes.add(new Leaf(half));
        }
        if (free.size() < writes.size() + (all.isEmpty() ? 0 : 1)) {
            throw new Answer(-2);
        }
        if (!all.isEmpty()) {
            Root old = currentRoot() == null ? new Root(null, null) : (Root) pages.get(currentRoot());
            Integer leaf = half.isEmpty() ? null : free.get(0);
            writes.add(low ? new Root(leaf, old.high) : new Root(old.low, leaf));
        }
        try {
            for (int n = 0; n < writes.size(); n++) {
                pages.put(free.get(n), writes.get(n));
                written();
            }
            int other = metaNumber[0] >= metaNumber[1] ? 1 : 0;
            metaNumber[other] = metaNumber[1 - other] + 1;
            metaRoot[other] = all.isEmpty() ? null : free.get(writes.size() - 1);
            written();
        } catch (Stop s) {
            stopped = true;
            readers.clear();
            text.setLength(0);
            throw new Answer(DOWN);
        }
    }

    private void written() throws Stop {
        blocks++;
        fuse--;
        if (fuse == 0) {
            throw new Stop();
        }
    }

    /** Values of the model: Boolean, Integer, String, List, LinkedHashMap, and this for null. */
    static final Object NULL = new Object();

    @SuppressWarnings("unchecked")
    static List<Object> list(Object value) {
        return value instanceof List ? (List<Object>) value : null;
    }

    @SuppressWarnings("unchecked")
    static LinkedHashMap<String, Object> map(Object value) {
        return value instanceof LinkedHashMap ? (LinkedHashMap<String, Object>) value : null;
    }
}
