/** Promise 12: readers are closed, and what only they could reach is free. */
public final class Promise12CloseTest {
    public static void main(String[] args) {
        Trial t = new Trial("close");
        t.put("1", 0, 1);
        t.x.open();
        t.x.open();
        t.put("2", 0, 1);
        t.put("3", 0, 1);
        t.put("4", 0, 1);
        t.pages("210021210000");
        for (int r : new int[] {-1, 2, 3, Integer.MIN_VALUE, Integer.MAX_VALUE}) {
            t.due("close(" + r + ")", t.x.close(r), false);
        }
        t.sizes(0, 1, 2, 12, 0, 4, 0);
        t.due("close(0)", t.x.close(0), true);
        t.due("close(0) again", t.x.close(0), false);
        t.due("size(2)", t.x.size(2), 1);
        t.pages("210021210000");
        t.prints(1, 0, "1");
        t.due("print(0, 0)", t.x.print(0, 0), PagedValues.BAD);
        t.due("close(1)", t.x.close(1), true);
        t.pages("000021210000");
        t.put("5", 0, 1);
        t.pages("210000210000");

        Trial down = new Trial("close when stopped");
        down.x.open();
        down.x.fuse(1);
        down.put("1", 0, PagedValues.DOWN);
        down.due("close(0)", down.x.close(0), false);
        down.x.restart();
        down.due("close(0)", down.x.close(0), false);
        Trial.end();
    }
}
