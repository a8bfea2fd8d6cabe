/** Promise 16: the numbers that tell the state, also when the machine has stopped. */
public final class Promise16SizeTest {
    public static void main(String[] args) {
        Trial t = new Trial("size");
        t.sizes(0, 0, 0, 0, 0, 0, 0);
        for (int what : new int[] {-1, 7, 8, Integer.MIN_VALUE, Integer.MAX_VALUE}) {
            t.due("size(" + what + ")", t.x.size(what), PagedValues.BAD);
        }
        t.type("12");
        t.sizes(2, 0, 0, 0, 0, 0, 0);
        t.due("put(0)", t.x.put(0), 1);
        t.sizes(0, 1, 0, 3, 1, 1, 0);
        t.x.open();
        t.put("5", 7, 1);
        t.sizes(0, 2, 1, 6, 0, 2, 0);
        t.x.open();
        t.put("5", 7, 1);
        t.sizes(0, 2, 2, 9, 1, 3, 0);
        t.due("remove(0)", t.x.remove(0), 1);
        t.sizes(0, 1, 2, 11, 0, 4, 0);
        t.due("remove(7)", t.x.remove(7), 0);
        t.sizes(0, 0, 2, 12, 1, 5, 0);
        t.x.fuse(3);
        t.put("1", 1, PagedValues.DOWN);
        t.sizes(0, 1, 0, 15, 0, 6, 1);
        t.due("size(7) when stopped", t.x.size(7), PagedValues.BAD);
        t.x.restart();
        t.sizes(0, 1, 0, 15, 0, 6, 0);
        for (int id = 0; id < 8; id++) {
            t.put("1", id, 1);
        }
        t.sizes(0, 8, 0, 39, 0, 14, 0);
        Trial.end();
    }
}
