/** Promise 7: the ids of results, which stay until the next query. */
public final class Promise07ResultTest {
    public static void main(String[] args) {
        Trial t = new Trial("result");
        t.put("[1,2]", 2, 3);
        t.put("{\"a\":3}", 6, 2);
        t.query("$.*", -1, -1, 3);
        t.due("result(0)", t.x.result(0), 2);
        t.due("result(1)", t.x.result(1), 2);
        t.due("result(2)", t.x.result(2), 6);
        for (int i : new int[] {3, 31, 32, 33, -1, Integer.MIN_VALUE, Integer.MAX_VALUE}) {
            t.due("result(" + i + ")", t.x.result(i), PagedValues.BAD);
        }
        t.put("0", 2, 1);
        t.x.remove(6);
        t.results("2:1", "2:2", "6:3");
        t.x.fuse(1);
        t.put("0", 2, PagedValues.DOWN);
        t.due("result(2) when stopped", t.x.result(2), 6);
        t.results("2:1", "2:2", "6:3");
        t.x.restart();
        t.results("2:1", "2:2", "6:3");
        t.query("$.x", -1, -1, 0);
        t.due("result(0)", t.x.result(0), PagedValues.BAD);
        Trial.end();
    }
}
