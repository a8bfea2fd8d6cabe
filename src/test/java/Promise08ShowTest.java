/** Promise 8: results are written to the output. */
public final class Promise08ShowTest {
    public static void main(String[] args) {
        Trial t = new Trial("show");
        t.put("{\"a\":[1,{\"b\":null}],\"c\":\"\\\"\\\\\",\"d\":-7,\"e\":true,\"f\":false}", 1, 9);
        t.query("$.*", -1, 1, 5);
        shows(t, 0, "[1,{\"b\":null}]");
        shows(t, 1, "\"\\\"\\\\\"");
        shows(t, 2, "-7");
        shows(t, 3, "true");
        shows(t, 4, "false");
        for (int i : new int[] {5, 32, -1, Integer.MIN_VALUE, Integer.MAX_VALUE}) {
            t.due("show(" + i + ")", t.x.show(i), PagedValues.BAD);
        }
        t.due("output after BAD", t.written(), "false");
        t.put("0", 1, 1);
        t.due("output after put", t.written(), "false");
        t.x.fuse(1);
        t.put("1", 1, PagedValues.DOWN);
        t.due("output after stop", t.written(), "false");
        shows(t, 0, "[1,{\"b\":null}]");
        t.x.restart();
        shows(t, 2, "-7");
        t.query("x", -1, 1, -100);
        t.due("show(0)", t.x.show(0), PagedValues.BAD);
        t.due("output after a query", t.written(), "-7");
        Trial.end();
    }

    private static void shows(Trial t, int i, String want) {
        t.due("show(" + i + ")", t.x.show(i), want.length());
        t.due("output after show(" + i + ")", t.written(), want);
    }
}
