/** Promise 10: the characters of the output. */
public final class Promise10OutputTest {
    public static void main(String[] args) {
        Trial t = new Trial("output");
        t.due("output(0) at first", t.x.output(0), PagedValues.BAD);
        t.put("[\"\u00ff \u0080\\\\\",-1]", 0, 3);
        t.due("output(0) after put", t.x.output(0), PagedValues.BAD);
        t.due("print(-1, 0)", t.x.print(-1, 0), 12);
        int[] want = {'[', '"', 255, 32, 128, '\\', '\\', '"', ',', '-', '1', ']'};
        for (int p = 0; p < want.length; p++) {
            t.due("output(" + p + ")", t.x.output(p), want[p]);
        }
        for (int p : new int[] {12, 13, -1, Integer.MIN_VALUE, Integer.MAX_VALUE}) {
            t.due("output(" + p + ")", t.x.output(p), PagedValues.BAD);
        }
        t.put("5", 0, 1);
        t.due("print(-1, 0)", t.x.print(-1, 0), 1);
        t.due("output(0)", t.x.output(0), '5');
        t.due("output(1) of a shorter output", t.x.output(1), PagedValues.BAD);
        t.x.fuse(1);
        t.due("remove(0)", t.x.remove(0), PagedValues.DOWN);
        t.due("output(0) when stopped", t.x.output(0), '5');
        t.x.restart();
        t.due("output(0) when restarted", t.x.output(0), '5');
        Trial.end();
    }
}
