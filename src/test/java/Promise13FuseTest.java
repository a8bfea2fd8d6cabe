/** Promise 13: the machine stops right behind the k-th block written since the fuse was set. */
public final class Promise13FuseTest {
    public static void main(String[] args) {
        everyLength();
        wrongLengths();
        setAnew();
        whatAStopDoes();
        Trial.end();
    }

    private static void everyLength() {
        for (int k = 1; k <= 20; k++) {
            Trial t = new Trial("fuse of " + k);
            t.put("0", 0, 1);
            t.due("fuse(" + k + ")", t.x.fuse(k), true);
            for (int n = 1; 3 * n < k; n++) {
                t.put("" + n, 0, 1);
            }
            int last = (k + 2) / 3;
            t.put("" + last, 0, PagedValues.DOWN);
            int whole = k / 3;
            t.sizes(0, 1, 0, 3 + k, (whole + 1) % 2, whole + 1, 1);
            t.due("restart()", t.x.restart(), true);
            t.prints(-1, 0, "" + whole);
            for (int n = 0; n < 8; n++) {
                t.put("9", 0, 1);
            }
        }
    }

    private static void wrongLengths() {
        Trial t = new Trial("wrong fuse");
        t.due("fuse(3)", t.x.fuse(3), true);
        for (int k : new int[] {0, 21, -1, Integer.MIN_VALUE, Integer.MAX_VALUE}) {
            t.due("fuse(" + k + ")", t.x.fuse(k), false);
        }
        t.put("1", 0, PagedValues.DOWN);
        t.due("fuse(1) when stopped", t.x.fuse(1), false);
        t.x.restart();
        t.put("2", 0, 1);
        t.put("3", 0, 1);
        t.sizes(0, 1, 0, 9, 1, 3, 0);
    }

    private static void setAnew() {
        Trial t = new Trial("fuse set anew");
        t.x.fuse(2);
        t.x.fuse(7);
        t.put("1", 0, 1);
        t.put("2", 4, 1);
        t.x.fuse(4);
        t.put("3", 0, 1);
        t.due("remove(0)", t.x.remove(0), PagedValues.DOWN);
        t.sizes(0, 2, 0, 10, 1, 3, 1);
        t.x.restart();
        t.x.fuse(2);
        t.due("remove(0), two blocks", t.x.remove(0), PagedValues.DOWN);
        t.sizes(0, 1, 0, 12, 0, 4, 1);
    }

    private static void whatAStopDoes() {
        Trial t = new Trial("what a stop does");
        t.put("1", 0, 1);
        t.x.open();
        t.x.open();
        t.put("2", 0, 1);
        t.put("3", 0, 1);
        t.pages("212121000000");
        t.type("xyz");
        t.x.fuse(1);
        t.due("remove(0)", t.x.remove(0), PagedValues.DOWN);
        t.sizes(0, 0, 0, 10, 0, 4, 1);
        t.pages("000021000000");

        Trial early = new Trial("a stop before the meta");
        early.put("1", 0, 1);
        early.put("2", 4, 1);
        early.x.open();
        early.x.fuse(1);
        early.put("3", 0, PagedValues.DOWN);
        early.sizes(0, 2, 0, 7, 0, 2, 1);
        early.pages("212100000000");
    }
}
