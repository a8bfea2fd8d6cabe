import java.util.function.Consumer;
import java.util.function.ToIntFunction;

/**
 * "put(), patch() and query() empty the text, but for the answers DOWN and BAD. Otherwise a call that answers false or
 * one of the constants changes nothing." Of two objects made alike one gets the refused call: they must look alike then.
 */
public final class RefusedCallsTest extends Cases {
    private static final int[] EXTREMES = {Integer.MIN_VALUE, Integer.MAX_VALUE};

    public static void main(String[] args) {
        typeRefused();
        putRefused();
        patchRefused();
        removeRefused();
        queryRefused();
        lookingRefused();
        readersRefused();
        machineRefused();
        everythingWhenStopped();
        everythingOnANewObject();
        looking();
        Trial.end();
    }

    /** Two documents, reader 0 with an older state, three results, an output, a fuse, and this text. */
    private static Consumer<Trial> running(String text) {
        return t -> {
            t.put("{\"a\":[1,2,3]}", 0, 5);
            t.x.open();
            t.put("\"q\"", 5, 1);
            t.query("$.a[*]", -1, 0, 3);
            t.prints(-1, 5, "\"q\"");
            t.x.fuse(14);
            t.type(text);
        };
    }

    /** The same when the machine has stopped behind the leaf of another document. */
    private static void stopped(Trial t) {
        running("").accept(t);
        t.x.fuse(1);
        t.put("8", 6, DOWN);
    }

    /** One page is free, while a result, an output and a fuse are there. */
    private static Consumer<Trial> scarce(String text) {
        return t -> {
            t.steps("p0 p4 o p5 p0 o r4 p0 p4");
            t.pages("222122120121");
            t.query("$", -1, 0, 1);
            t.prints(0, 4, "1");
            t.x.fuse(10);
            t.type(text);
        };
    }

    private static Trial made(String name, Consumer<Trial> state) {
        Trial t = new Trial(name);
        state.accept(t);
        return t;
    }

    private static void alike(String call, Trial called, Trial twin) {
        called.due("what is seen behind " + call, Sight.of(called.x), Sight.of(twin.x));
    }

    /** The call is answered so, and changes nothing at all. */
    private static void leavesAll(Consumer<Trial> state, String name, ToIntFunction<Counted> call, int answer) {
        Trial t = made("refused call", state);
        t.due(name, call.applyAsInt(t.x), answer);
        alike(name, t, made("twin", state));
    }

    /** The text is refused so, and only it goes. */
    private static void leavesAllButText(Consumer<Trial> state, String text, String name, ToIntFunction<Counted> call,
            int answer) {
        Trial t = made("refused text", state);
        t.type(text);
        t.due(name + " of " + text, call.applyAsInt(t.x), answer);
        alike(name + " of " + text, t, made("twin", state));
    }

    private static int[] with(int... some) {
        int[] all = new int[some.length + EXTREMES.length];
        System.arraycopy(some, 0, all, 0, some.length);
        System.arraycopy(EXTREMES, 0, all, some.length, EXTREMES.length);
        return all;
    }

    private static void typeRefused() {
        String most = "[5" + " ".repeat(77) + "]";
        for (char c : new char[] {'1', ' ', ']', 0, 0xffff}) {
            leavesAll(running(most), "type(" + (int) c + ")", x -> x.type(c), BAD);
        }
    }

    private static void putRefused() {
        for (int id : with(-1, 8, 9)) {
            leavesAll(running("[5]"), "put(" + id + ")", x -> x.put(id), BAD);
            leavesAll(running("[5"), "put(" + id + ")", x -> x.put(id), BAD);
        }
        leavesAllButText(running(""), "", "put(0)", x -> x.put(0), -100);
        leavesAllButText(running(""), "[5", "put(0)", x -> x.put(0), -102);
        leavesAllButText(running(""), "[5", "put(7)", x -> x.put(7), -102);
        leavesAllButText(running(""), "{\"a\":1,\"a\":2}", "put(5)", x -> x.put(5), -107);
        leavesAllButText(scarce(""), "[5", "put(0)", x -> x.put(0), -102);
        leavesAllButText(scarce(""), "[5]", "put(0)", x -> x.put(0), FULL);
        leavesAllButText(scarce(""), "[5]", "put(3)", x -> x.put(3), FULL);
        leavesAllButText(scarce(""), "[5]", "put(7)", x -> x.put(7), FULL);
    }

    private static void patchRefused() {
        for (int id : with(-1, 1, 4, 6, 8)) {
            leavesAll(running("[]"), "patch(" + id + ")", x -> x.patch(id), BAD);
            leavesAll(running("[5"), "patch(" + id + ")", x -> x.patch(id), BAD);
        }
        patchRefusedFor("", -100);
        patchRefusedFor("[{\"op\":\"remove\",\"path\":\"/a\"}", -128);
        patchRefusedFor("[5]", MALFORMED);
        patchRefusedFor("[" + remove("/a") + ",5]", MALFORMED);
        patchRefusedFor("[" + remove("/b") + "]", -10);
        patchRefusedFor("[" + remove("/a") + "," + remove("/a") + "]", -11);
        patchRefusedFor("[" + add("/a/0", "[[[]]]") + "]", -137);
        patchRefusedFor("[" + copy("", "/a/0") + "," + copy("", "/b") + "]", TOO_BIG);
        leavesAllButText(scarce(""), "[]", "patch(0)", x -> x.patch(0), FULL);
        leavesAllButText(scarce(""), "[" + add("", "2") + "]", "patch(4)", x -> x.patch(4), FULL);
    }

    private static void patchRefusedFor(String text, int answer) {
        leavesAllButText(running(""), text, "patch(0)", x -> x.patch(0), answer);
    }

    private static void removeRefused() {
        for (int id : with(-1, 1, 4, 6, 8)) {
            leavesAll(running("[5]"), "remove(" + id + ")", x -> x.remove(id), BAD);
        }
        leavesAll(scarce("[5]"), "remove(4)", x -> x.remove(4), FULL);
        leavesAll(scarce("[5]"), "remove(5)", x -> x.remove(5), FULL);
        leavesAll(scarce("[5]"), "remove(1)", x -> x.remove(1), BAD);
    }

    private static void queryRefused() {
        for (String text : new String[] {"", "$", "$["}) {
            for (int r : with(-2, 1, 2, 3)) {
                leavesAll(running(text), "query(" + r + ", 0)", x -> x.query(r, 0), BAD);
                leavesAll(running(text), "query(" + r + ", -1)", x -> x.query(r, -1), BAD);
            }
            for (int id : with(-2, 1, 4, 6, 8)) {
                leavesAll(running(text), "query(-1, " + id + ")", x -> x.query(-1, id), BAD);
                leavesAll(running(text), "query(0, " + id + ")", x -> x.query(0, id), BAD);
            }
            leavesAll(running(text), "query(0, 5)", x -> x.query(0, 5), BAD);
        }
        queryLeavesNoResults("", -100);
        queryLeavesNoResults("$.a[", -104);
        queryLeavesNoResults("$.a[*,*,*,*]..a[0].", -119);
        queryLeavesNoResults("$.a..[*,*,*,*,*][*,*]x", -121);
        queryLeavesNoResults("$['a','a','a','a','a'].*['a'].a.b", -132);
        queryLeavesNoResults("$['a','a','a','a'][*,*,*,*]", TOO_MANY);
        queryLeavesNoResults("$['a','a','a'].*", 9);
    }

    /** A query that is refused leaves what one leaves that finds nothing; one that is taken is no twin of it. */
    private static void queryLeavesNoResults(String text, int answer) {
        Trial t = made("refused query", running(""));
        t.query(text, -1, 0, answer);
        Trial twin = made("twin", running(""));
        twin.query("$.x", -1, 0, 0);
        String seen = Sight.of(t.x);
        t.due("no results behind query of " + text, seen.equals(Sight.of(twin.x)), answer < 0);
    }

    private static void lookingRefused() {
        for (int i : with(-1, 3, 4, 31, 32)) {
            leavesAll(running("[5]"), "result(" + i + ")", x -> x.result(i), BAD);
            leavesAll(running("[5]"), "show(" + i + ")", x -> x.show(i), BAD);
        }
        for (int p : with(-1, 3, 4, 80)) {
            leavesAll(running("[5]"), "output(" + p + ")", x -> x.output(p), BAD);
        }
        for (int r : with(-2, 1, 2, 3)) {
            leavesAll(running("[5]"), "print(" + r + ", 0)", x -> x.print(r, 0), BAD);
        }
        for (int id : with(-2, -1, 1, 4, 6, 8)) {
            leavesAll(running("[5]"), "print(-1, " + id + ")", x -> x.print(-1, id), BAD);
            leavesAll(running("[5]"), "print(0, " + id + ")", x -> x.print(0, id), BAD);
        }
        leavesAll(running("[5]"), "print(0, 5)", x -> x.print(0, 5), BAD);
        for (int n : with(-1, 12, 13)) {
            leavesAll(running("[5]"), "page(" + n + ")", x -> x.page(n), BAD);
        }
        for (int what : with(-1, 7, 8)) {
            leavesAll(running("[5]"), "size(" + what + ")", x -> x.size(what), BAD);
        }
    }

    private static void readersRefused() {
        Consumer<Trial> allOpen = running("[5]").andThen(t -> t.steps("o o"));
        leavesAll(allOpen, "open()", Counted::open, BAD);
        for (int r : with(-1, 1, 2, 3)) {
            leavesAll(running("[5]"), "close(" + r + ")", x -> x.close(r) ? 1 : 0, 0);
        }
        for (int r : with(-1, 3)) {
            leavesAll(allOpen, "close(" + r + ")", x -> x.close(r) ? 1 : 0, 0);
        }
    }

    private static void machineRefused() {
        for (int k : with(-1, 0, 21, 22)) {
            leavesAll(running("[5]"), "fuse(" + k + ")", x -> x.fuse(k) ? 1 : 0, 0);
        }
        leavesAll(running("[5]"), "restart()", x -> x.restart() ? 1 : 0, 0);
        leavesAll(scarce("[5]"), "restart()", x -> x.restart() ? 1 : 0, 0);
    }

    /** "DOWN: The machine has stopped (asked first)." */
    private static void everythingWhenStopped() {
        Consumer<Trial> state = RefusedCallsTest::stopped;
        leavesAll(state, "type('1')", x -> x.type('1'), DOWN);
        leavesAll(state, "open()", Counted::open, DOWN);
        for (int n : with(-2, -1, 0, 3, 5, 6, 8)) {
            leavesAll(state, "put(" + n + ")", x -> x.put(n), DOWN);
            leavesAll(state, "patch(" + n + ")", x -> x.patch(n), DOWN);
            leavesAll(state, "remove(" + n + ")", x -> x.remove(n), DOWN);
            leavesAll(state, "query(-1, " + n + ")", x -> x.query(-1, n), DOWN);
            leavesAll(state, "query(" + n + ", 0)", x -> x.query(n, 0), DOWN);
            leavesAll(state, "print(-1, " + n + ")", x -> x.print(-1, n), DOWN);
            leavesAll(state, "print(" + n + ", 0)", x -> x.print(n, 0), DOWN);
            leavesAll(state, "close(" + n + ")", x -> x.close(n) ? 1 : 0, 0);
        }
        for (int k : with(-1, 0, 1, 3, 20, 21)) {
            leavesAll(state, "fuse(" + k + ")", x -> x.fuse(k) ? 1 : 0, 0);
        }
        for (int n : with(-1, 12, 32)) {
            leavesAll(state, "result(" + n + ")", x -> x.result(n), BAD);
            leavesAll(state, "show(" + n + ")", x -> x.show(n), BAD);
            leavesAll(state, "output(" + n + ")", x -> x.output(n), BAD);
            leavesAll(state, "page(" + n + ")", x -> x.page(n), BAD);
            leavesAll(state, "size(" + n + ")", x -> x.size(n), BAD);
        }
    }

    private static void everythingOnANewObject() {
        Consumer<Trial> state = t -> { };
        for (int n : with(-2, -1, 0, 1, 2, 3, 7, 8)) {
            leavesAll(state, "patch(" + n + ")", x -> x.patch(n), BAD);
            leavesAll(state, "remove(" + n + ")", x -> x.remove(n), BAD);
            leavesAll(state, "print(-1, " + n + ")", x -> x.print(-1, n), BAD);
            leavesAll(state, "close(" + n + ")", x -> x.close(n) ? 1 : 0, 0);
            leavesAll(state, "result(" + n + ")", x -> x.result(n), BAD);
            leavesAll(state, "show(" + n + ")", x -> x.show(n), BAD);
            leavesAll(state, "output(" + n + ")", x -> x.output(n), BAD);
        }
        leavesAll(state, "put(8)", x -> x.put(8), BAD);
        leavesAll(state, "put(0)", x -> x.put(0), -100);
        leavesAll(state, "query(-1, 0)", x -> x.query(-1, 0), BAD);
        leavesAll(state, "query(0, -1)", x -> x.query(0, -1), BAD);
        leavesAll(state, "query(-1, -1)", x -> x.query(-1, -1), -100);
        leavesAll(state, "restart()", x -> x.restart() ? 1 : 0, 0);
        leavesAll(state, "fuse(0)", x -> x.fuse(0) ? 1 : 0, 0);
    }

    /** Calls that only tell something leave everything, too, also when the machine has stopped. */
    private static void looking() {
        leavesAll(running("[5]"), "result(1)", x -> x.result(1), 0);
        leavesAll(running("[5]"), "output(2)", x -> x.output(2), '"');
        leavesAll(running("[5]"), "page(0)", x -> x.page(0), 2);
        leavesAll(running("[5]"), "size(0)", x -> x.size(0), 3);
        leavesAll(running("[5]"), "size(3)", x -> x.size(3), 6);
        leavesAll(RefusedCallsTest::stopped, "result(1)", x -> x.result(1), 0);
        leavesAll(RefusedCallsTest::stopped, "output(2)", x -> x.output(2), '"');
        leavesAll(RefusedCallsTest::stopped, "page(11)", x -> x.page(11), 0);
        leavesAll(RefusedCallsTest::stopped, "size(6)", x -> x.size(6), 1);
    }
}
