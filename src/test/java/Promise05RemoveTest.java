/** Promise 5: a document goes; no leaf is written for a half without documents, and no root without any. */
public final class Promise05RemoveTest {
    public static void main(String[] args) {
        removes();
        readersKeepWhatGoes();
        full();
        down();
        Trial.end();
    }

    private static void removes() {
        Trial t = new Trial("remove");
        t.put("1", 0, 1);
        t.put("2", 3, 1);
        t.put("3", 4, 1);
        t.pages("002121000000");
        t.type("xy");
        for (int id : new int[] {-1, 1, 5, 8, Integer.MIN_VALUE, Integer.MAX_VALUE}) {
            t.due("remove(" + id + ")", t.x.remove(id), PagedValues.BAD);
        }
        t.sizes(2, 3, 0, 9, 1, 3, 0);
        t.due("remove(0)", t.x.remove(0), 2);
        t.due("remove(0) again", t.x.remove(0), PagedValues.BAD);
        t.sizes(2, 2, 0, 12, 0, 4, 0);
        t.pages("212021000000");
        t.prints(-1, 3, "2");
        t.prints(-1, 4, "3");
        t.due("remove(3)", t.x.remove(3), 1);
        t.sizes(2, 1, 0, 14, 1, 5, 0);
        t.pages("210120000000");
        t.due("remove(4)", t.x.remove(4), 0);
        t.sizes(2, 0, 0, 15, 0, 6, 0);
        t.pages("000120000000");
        t.due("print(-1, 4)", t.x.print(-1, 4), PagedValues.BAD);
        t.due("remove(4) again", t.x.remove(4), PagedValues.BAD);
        t.due("put(0) of xy", t.x.put(0), -100);
        t.put("9", 0, 1);
        t.pages("210000000000");
    }

    private static void readersKeepWhatGoes() {
        Trial t = new Trial("readers keep what goes");
        t.put("1", 7, 1);
        t.x.open();
        t.due("remove(7)", t.x.remove(7), 0);
        t.x.open();
        t.prints(0, 7, "1");
        t.due("print(1, 7)", t.x.print(1, 7), PagedValues.BAD);
        t.put("2", 0, 1);
        t.pages("212100000000");
        t.prints(0, 7, "1");
    }

    private static void full() {
        Trial t = new Trial("full");
        t.fill("1", 1);
        t.type("x");
        t.due("remove(5)", t.x.remove(5), PagedValues.FULL);
        t.due("remove(6)", t.x.remove(6), PagedValues.BAD);
        t.sizes(1, 3, 3, 18, 0, 6, 0);
        t.pages("222121121210");
        t.due("remove(0), which needs one page", t.x.remove(0), 2);
        t.sizes(1, 2, 3, 20, 1, 7, 0);
        t.pages("222121100211");
    }

    private static void down() {
        Trial t = new Trial("down");
        t.put("1", 0, 1);
        t.x.open();
        t.x.fuse(1);
        t.type("x");
        t.due("remove(0), which stops with its meta", t.x.remove(0), PagedValues.DOWN);
        t.sizes(0, 0, 0, 4, 0, 2, 1);
        t.due("remove(0)", t.x.remove(0), PagedValues.DOWN);
        t.due("remove(8)", t.x.remove(8), PagedValues.DOWN);
        t.x.restart();
        t.due("remove(0)", t.x.remove(0), PagedValues.BAD);
        t.put("1", 0, 1);
        t.put("1", 1, 1);
        t.x.fuse(2);
        t.due("remove(0), which stops before its meta", t.x.remove(0), PagedValues.DOWN);
        t.x.restart();
        t.due("size(1)", t.x.size(1), 2);
        t.due("remove(0)", t.x.remove(0), 1);
    }
}
