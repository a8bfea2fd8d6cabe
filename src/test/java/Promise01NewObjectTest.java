/** Promise 1: what a new object is like. */
public final class Promise01NewObjectTest {
    public static void main(String[] args) {
        Trial t = new Trial("new object");
        t.sizes(0, 0, 0, 0, 0, 0, 0);
        t.pages("000000000000");
        t.due("result(0)", t.x.result(0), PagedValues.BAD);
        t.due("show(0)", t.x.show(0), PagedValues.BAD);
        t.due("output(0)", t.x.output(0), PagedValues.BAD);
        for (int id = 0; id < 8; id++) {
            t.due("print(-1, " + id + ")", t.x.print(-1, id), PagedValues.BAD);
        }
        for (int r = 0; r < 3; r++) {
            t.due("close(" + r + ")", t.x.close(r), false);
            t.due("query(" + r + ", -1)", t.x.query(r, -1), PagedValues.BAD);
        }
        t.due("restart()", t.x.restart(), false);

        Trial noFuse = new Trial("no fuse");
        for (int n = 0; n < 25; n++) {
            noFuse.put("1", 0, 1);
        }
        noFuse.sizes(0, 1, 0, 75, 1, 25, 0);

        Trial one = new Trial("first of two objects");
        Trial other = new Trial("second of two objects");
        one.put("1", 0, 1);
        one.type("x");
        one.x.open();
        other.sizes(0, 0, 0, 0, 0, 0, 0);
        other.pages("000000000000");
        Trial.end();
    }
}
