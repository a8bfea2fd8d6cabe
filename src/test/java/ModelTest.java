import java.util.ArrayList;
import java.util.List;
import java.util.Random;

/** Random runs of calls, each answer compared with the model's; the same runs every time. */
public final class ModelTest {
    private static final int RUNS = 6000;
    private static final int CALLS = 512;
    private static final int DEAREST_STEP = 110;
    private static final String[] NAMES = {"a", "b", "", "~", "/", "0", "1", "-", "\\\"", "abcdefghij"};
    private static final String[] TOKENS = {"a", "b", "", "~0", "~1", "0", "1", "2", "-", "01", "~", "\\\""};

    private final Random random;
    private final Trial t;
    private final Counted x;
    private final Model m = new Model();
    private int calls = 0;

    private ModelTest(int seed) {
        random = new Random(seed);
        t = new Trial("run of seed " + seed);
        x = t.x;
    }

    public static void main(String[] args) {
        for (int seed = 0; seed < RUNS; seed++) {
            new ModelTest(seed).run(seed % 2 == 0);
        }
        Trial.end();
    }

    /** Every other run is about the store alone, with short texts, so that pages become scarce. */
    private void run(boolean storeAlone) {
        while (calls < CALLS - DEAREST_STEP) {
            int kind = random.nextInt(100);
            if (m.size(0) > 0 && random.nextInt(4) != 0) {
                put();
            } else if (m.size(1) == 0 && random.nextInt(4) != 0) {
                type(document());
                put();
            } else if (kind < 60 && storeAlone) {
                type("" + random.nextInt(10));
                put();
            } else if (kind < 10) {
                type(mangled(blanks(document())));
                put();
            } else if (kind < 40) {
                int id = presentId();
                type(mangled(operations(id)));
                patch(id);
            } else if (kind < 60) {
                type(mangled(query()));
                ask();
            } else {
                other(kind);
            }
            look();
        }
    }

    private void other(int kind) {
        int n = kind < 75 ? presentId() : number();
        if (kind < 68) {
            same("remove(" + n + ")", x.remove(n), m.remove(n));
        } else if (kind < 84) {
            same("open()", x.open(), m.open());
        } else if (kind < 88) {
            same("close(" + n + ")", x.close(n) ? 1 : 0, m.close(n) ? 1 : 0);
        } else if (kind < 90) {
            int k = random.nextInt(23) - 1;
            same("fuse(" + k + ")", x.fuse(k) ? 1 : 0, m.fuse(k) ? 1 : 0);
        } else if (kind < 96) {
            same("restart()", x.restart() ? 1 : 0, m.restart() ? 1 : 0);
        } else {
            type("7");
            put();
        }
    }

    /** A few of the calls that only look, so that most of the calls still change something. */
    private void look() {
        int n = number();
        int r = reader();
        int i = m.result(0) == -1 || random.nextInt(4) == 0 ? n : random.nextInt(12);
        switch (random.nextInt(5)) {
            case 0:
                n = random.nextInt(6) == 0 ? n : presentId();
                same("print(" + r + ", " + n + ")", x.print(r, n), m.print(r, n));
                break;
            case 1:
                same("show(" + i + ")", x.show(i), m.show(i));
                break;
            case 2:
                same("result(" + i + ")", x.result(i), m.result(i));
                break;
            default:
                break;
        }
        int p = random.nextInt(4) == 0 ? random.nextInt(80) : random.nextInt(5) - 1;
        same("output(" + p + ")", x.output(p), m.output(p));
        int page = random.nextInt(14) - 1;
        same("page(" + page + ")", x.page(page), m.page(page));
        int what = random.nextInt(9) - 1;
        same("size(" + what + ")", x.size(what), m.size(what));
    }

    private void same(String call, int got, int want) {
        calls++;
        t.due("call " + calls + ", " + call, got, want);
    }

    private void type(String text) {
        for (int n = 0; n < text.length() && n < 82; n++) {
            same("type(" + (int) text.charAt(n) + ")", x.type(text.charAt(n)), m.type(text.charAt(n)));
        }
    }

    private void put() {
        int id = random.nextInt(12) == 0 ? number() : random.nextInt(8);
        same("put(" + id + ")", x.put(id), m.put(id));
    }

    private void patch(int id) {
        int wanted = random.nextInt(12) == 0 ? number() : id;
        same("patch(" + wanted + ")", x.patch(wanted), m.patch(wanted));
    }

    private void ask() {
        int r = reader();
        int id = random.nextInt(2) == 0 ? -1 : presentId();
        same("query(" + r + ", " + id + ")", x.query(r, id), m.query(r, id));
        for (int i = random.nextInt(4), n = 0; n < 6; i += 1 + random.nextInt(3), n++) {
            same("result(" + i + ")", x.result(i), m.result(i));
            same("show(" + i + ")", x.show(i), m.show(i));
            int p = random.nextInt(4);
            same("output(" + p + ")", x.output(p), m.output(p));
        }
    }

    /** Mostly a reader that is open, or the current meta. */
    private int reader() {
        if (random.nextInt(8) == 0) {
            return number();
        }
        return m.size(2) == 0 || random.nextBoolean() ? -1 : random.nextInt(m.size(2));
    }

    /** The id of a document, if there is one. */
    private int presentId() {
        int id = random.nextInt(8);
        for (int n = 0; n < 8 && m.document(id) == null; n++) {
            id = (id + 1) % 8;
        }
        return id;
    }

    private int number() {
        return random.nextInt(40) == 0 ? random.nextInt() : random.nextInt(11) - 2;
    }

    private String pick(String[] all) {
        return all[random.nextInt(all.length)];
    }

    /** Blanks before and behind signs; in strings they do no harm. */
    private String blanks(String text) {
        if (random.nextInt(3) != 0) {
            return text;
        }
        StringBuilder all = new StringBuilder();
        for (char c : text.toCharArray()) {
            boolean room = "[]{},:".indexOf(c) >= 0 && random.nextInt(3) == 0;
            all.append(room ? " \t\n\r".charAt(random.nextInt(4)) : "").append(c).append(room ? " " : "");
        }
        return all.toString();
    }

    /** Often as it is; else with a character changed, put in or left out, or with its end cut off. */
    private String mangled(String text) {
        if (random.nextInt(7) != 0 || text.isEmpty()) {
            return text;
        }
        int n = random.nextInt(text.length());
        String odd = "[]{},:\"\\'0179-ntfx.*$ ~/\t\u00ff\u0100\u0000";
        char c = odd.charAt(random.nextInt(odd.length()));
        switch (random.nextInt(4)) {
            case 0:
                return text.substring(0, n) + c + text.substring(n);
            case 1:
                return text.substring(0, n) + c + text.substring(n + 1);
            case 2:
                return text.substring(0, n) + text.substring(n + 1);
            default:
                return text.substring(0, n);
        }
    }

    /** One of three is wide: a row of short values that nearly is, or is, too big. */
    private String document() {
        if (random.nextInt(3) != 0) {
            return value(random.nextInt(6), new int[] {1 + random.nextInt(16)});
        }
        StringBuilder all = new StringBuilder("[");
        int most = 14 + random.nextInt(11);
        for (int n = 0; n < most; n++) {
            all.append(n == 0 ? "" : ",").append(random.nextInt(6) == 0 ? "[]" : "" + n % 10);
        }
        return all.append(']').toString();
    }

    private String value(int depth, int[] left) {
        left[0]--;
        if (depth > 0 && random.nextInt(5) != 0) {
            return parts(depth, left, random.nextBoolean());
        }
        switch (random.nextInt(20)) {
            case 0:
                return "null";
            case 1:
                return random.nextBoolean() ? "true" : "false";
            case 2:
                return "" + (random.nextInt(2100000) - 1050000);
            case 3:
                return "\"" + pick(NAMES) + "\"";
            case 4:
                return "\"" + "abcdefgh\\\\ij\u00ff".substring(random.nextInt(4)) + "\"";
            default:
                return "" + (random.nextInt(14) - 2);
        }
    }

    private String parts(int depth, int[] left, boolean object) {
        StringBuilder all = new StringBuilder();
        int offset = random.nextInt(NAMES.length);
        int most = random.nextInt(object ? 5 : 9);
        for (int n = 0; n < most && left[0] > 0; n++) {
            all.append(n == 0 ? "" : ",");
            if (object) {
                String name = random.nextInt(20) == 0 ? pick(NAMES) : NAMES[(offset + n) % NAMES.length];
                all.append('"').append(name).append("\":");
            }
            all.append(value(depth - 1, left));
        }
        return object ? "{" + all + "}" : "[" + all + "]";
    }

    private String operations(int id) {
        StringBuilder all = new StringBuilder("[");
        int most = random.nextInt(12) == 0 ? 0 : 1 + random.nextInt(2);
        for (int n = 0; n < most; n++) {
            all.append(n == 0 ? "" : ",").append(operation(id));
        }
        return all.append(']').toString();
    }

    private String operation(int id) {
        String path = path(id);
        String value = value(random.nextInt(3), new int[] {4});
        switch (random.nextInt(13)) {
            case 0:
            case 1:
            case 2:
                return "{\"op\":\"remove\",\"path\":\"" + path + "\"}";
            case 3:
            case 4:
                return "{\"op\":\"replace\",\"path\":\"" + path + "\",\"value\":" + value + "}";
            case 5:
            case 6:
            case 7:
                return "{\"op\":\"copy\",\"from\":\"" + path + "\",\"path\":\"" + path(id) + "\"}";
            case 8:
                return "{\"op\":\"copy\",\"from\":\"\",\"path\":\"" + path + "\"}";
            case 9:
                String[] odd = {"{\"op\":\"add\",\"path\":\"\"}", "{\"op\":\"copy\",\"path\":\"\",\"from\":1}", "1", "{}",
                    "{\"op\":\"remove\",\"path\":0}", "{\"op\":\"rem\",\"path\":\"\"}", "{\"path\":\"/0\",\"op\":\"remove\",\"from\":1}"};
                return pick(odd);
            default:
                return "{\"op\":\"add\",\"path\":\"" + path + "\",\"value\":" + value + "}";
        }
    }

    /** Mostly a walk into the document, often with one token more. */
    private String path(int id) {
        StringBuilder all = new StringBuilder(random.nextInt(40) == 0 ? "a" : "");
        Object at = m.document(id);
        for (int n = random.nextInt(4); n > 0 && at != null && !ModelValues.parts(at).isEmpty(); n--) {
            List<String> names = new ArrayList<>();
            for (int i = 0; i < ModelValues.parts(at).size(); i++) {
                names.add("" + i);
            }
            if (Model.map(at) != null) {
                names = new ArrayList<>(Model.map(at).keySet());
            }
            int chosen = random.nextInt(names.size());
            String name = names.get(chosen).replace("~", "~0").replace("/", "~1");
            all.append('/').append(name.replace("\\", "\\\\").replace("\"", "\\\""));
            at = new ArrayList<>(ModelValues.parts(at)).get(chosen);
        }
        return random.nextInt(2) == 0 ? all.toString() : all.append('/').append(pick(TOKENS)).toString();
    }

    private String query() {
        StringBuilder all = new StringBuilder("$");
        int most = random.nextInt(random.nextInt(10) == 0 ? 10 : 4);
        for (int n = 0; n < most; n++) {
            int form = random.nextInt(6);
            if (form < 2) {
                all.append(form == 0 ? "." : "..").append(pick(new String[] {"a", "b", "abcdefghij", "*", "*", "*", "_9"}));
            } else {
                all.append(form < 4 ? "[" : "..[").append(selector());
                for (int more = random.nextInt(random.nextInt(8) == 0 ? 9 : 3); more > 0; more--) {
                    all.append(',').append(selector());
                }
                all.append(']');
            }
        }
        return all.toString();
    }

    private String selector() {
        String[] all = {"*", "*", "*", "*", "0", "1", "-1", "-2", "2", "'a'", "'b'", "''", "'\"'", "'~'", "'abcdefghij'", "123", "-999", "1000"};
        return pick(all);
    }
}
