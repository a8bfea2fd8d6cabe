/** "An object is used for at most 512 calls": up to the last of them every answer is right. */
public final class BoundsOfUseTest extends Cases {
    private static final int MOST_CALLS = 512;

    public static void main(String[] args) {
        typing();
        putting();
        patchingTheLargest();
        askingTheMost();
        stopping();
        opening();
        manyObjects();
        Trial.end();
    }

    private static void allUsed(Trial t) {
        t.due("calls", t.x.calls(), MOST_CALLS);
    }

    private static void typing() {
        Trial t = new Trial("512 characters");
        for (int n = 1; n <= MOST_CALLS; n++) {
            t.due("type " + n, t.x.type((char) n), n <= 80 ? n : BAD);
        }
        allUsed(t);
    }

    private static void putting() {
        Trial t = new Trial("255 puts");
        for (int n = 1; n <= 255; n++) {
            t.due("type", t.x.type('1'), 1);
            t.due("put " + n, t.x.put(n % 8), 1);
        }
        t.due("blocks", t.x.size(3), 765);
        t.due("number", t.x.size(5), 255);
        allUsed(t);
    }

    /** Each of the patches copies a document of 24 values and writes it anew. */
    private static void patchingTheLargest() {
        Trial t = new Trial("patches of the largest document");
        t.put("[" + row("1", 23) + "]", 0, 24);
        while (t.x.calls() + 4 < MOST_CALLS) {
            t.patch("[]", 0, 24);
        }
        t.due("number", t.x.size(5) > 100, true);
        t.due("print(-1, 0)", t.x.print(-1, 0), 47);
        t.due("output(46)", t.x.output(46), ']');
        while (t.x.calls() < MOST_CALLS) {
            t.due("output(1)", t.x.output(1), '1');
        }
    }

    private static void askingTheMost() {
        Trial t = new Trial("queries with the most nodes");
        t.put("[[[[1,2,3,4,5,6,7,8]]]]", 0, 12);
        while (t.x.calls() + 14 < MOST_CALLS) {
            t.query("$..*..*", -1, 0, 27);
            t.due("result(26)", t.x.result(26), 0);
            t.due("show(26)", t.x.show(26), 1);
            t.due("output(0)", t.x.output(0), '8');
        }
        while (t.x.calls() < MOST_CALLS) {
            t.due("show(0)", t.x.show(0), 19);
        }
    }

    private static void stopping() {
        Trial t = new Trial("128 stops");
        for (int n = 0; n < MOST_CALLS / 4; n++) {
            t.due("fuse(1)", t.x.fuse(1), true);
            t.due("type", t.x.type('1'), 1);
            t.due("put", t.x.put(n % 8), DOWN);
            t.due("restart()", t.x.restart(), true);
        }
        allUsed(t);
    }

    private static void opening() {
        Trial t = new Trial("256 readers");
        for (int n = 0; n < MOST_CALLS / 2; n++) {
            t.due("open()", t.x.open(), 0);
            t.due("close(0)", t.x.close(0), true);
        }
        allUsed(t);
    }

    /** Objects have nothing in common. */
    private static void manyObjects() {
        Trial[] all = new Trial[20];
        for (int n = 0; n < all.length; n++) {
            all[n] = new Trial("object " + n);
            all[n].put("" + n, 0, 1);
            all[n].type(" ".repeat(n));
            all[n].x.fuse(n + 1);
        }
        for (int n = 0; n < all.length; n++) {
            all[n].sizes(n, 1, 0, 3, 1, 1, 0);
            all[n].prints(-1, 0, "" + n);
        }
        all[0].due("remove(0)", all[0].x.remove(0), DOWN);
        all[1].due("remove(0)", all[1].x.remove(0), 0);
    }
}
