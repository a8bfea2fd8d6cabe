/** Promise 15: which pages are free, roots or leaves, while the lowest free ones are written. */
public final class Promise15PageTest {
    public static void main(String[] args) {
        Trial t = new Trial("page");
        for (int n : new int[] {-1, 12, Integer.MIN_VALUE, Integer.MAX_VALUE}) {
            t.due("page(" + n + ")", t.x.page(n), PagedValues.BAD);
        }
        t.pages("000000000000");
        t.put("1", 0, 1);
        t.pages("210000000000");
        t.put("2", 4, 1);
        t.pages("212100000000");
        t.put("3", 0, 1);
        t.pages("202121000000");
        t.x.open();
        t.put("4", 5, 1);
        t.pages("022021100000");
        t.due("remove(0)", t.x.remove(0), 2);
        t.pages("122021100000");
        t.due("remove(4)", t.x.remove(4), 1);
        t.pages("122221010000");
        t.due("remove(5)", t.x.remove(5), 0);
        t.pages("002221010000");
        t.x.close(0);
        t.pages("000200010000");
        t.x.fuse(1);
        t.put("5", 0, PagedValues.DOWN);
        t.pages("000200010000");
        t.due("page(12) when stopped", t.x.page(12), PagedValues.BAD);
        t.x.restart();
        t.put("5", 0, 1);
        t.pages("210000000000");
        lastPage();
        Trial.end();
    }

    /** One page is free, and one is needed. */
    private static void lastPage() {
        Trial t = new Trial("last page");
        t.fill("1", 1);
        t.due("remove(0)", t.x.remove(0), 2);
        t.pages("222121100211");
    }
}
