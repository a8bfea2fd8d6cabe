/** Promise 14: the machine starts again with the last state that was whole. */
public final class Promise14RestartTest {
    public static void main(String[] args) {
        Trial t = new Trial("restart");
        t.due("restart() of a running machine", t.x.restart(), false);
        t.put("[1]", 0, 2);
        t.put("[2]", 4, 2);
        t.due("restart() of a running machine", t.x.restart(), false);
        t.type("[3]");
        t.due("size(0)", t.x.size(0), 3);
        t.x.open();
        t.x.fuse(2);
        t.due("put(0)", t.x.put(0), PagedValues.DOWN);
        t.due("size(6)", t.x.size(6), 1);
        t.due("restart()", t.x.restart(), true);
        t.due("restart() again", t.x.restart(), false);
        t.sizes(0, 2, 0, 8, 0, 2, 0);
        t.prints(-1, 0, "[1]");
        t.prints(-1, 4, "[2]");
        t.pages("212100000000");
        t.put("[4]", 0, 2);
        t.prints(-1, 0, "[4]");
        t.sizes(0, 2, 0, 11, 1, 3, 0);
        t.x.fuse(3);
        t.put("[5]", 4, PagedValues.DOWN);
        t.due("restart()", t.x.restart(), true);
        t.prints(-1, 4, "[5]");
        t.sizes(0, 2, 0, 14, 0, 4, 0);
        Trial.end();
    }
}
