/** Promise 9: documents are written to the output as a reader has them. */
public final class Promise09PrintTest {
    public static void main(String[] args) {
        prints();
        longest();
        wrongOnes();
        Trial.end();
    }

    private static void prints() {
        Trial t = new Trial("print");
        t.put(" { \"a\" : [ ] , \"b\" : { } , \"\\\\\" : [ true , false , null , -0 , 12 ] } ", 0, 9);
        t.prints(-1, 0, "{\"a\":[],\"b\":{},\"\\\\\":[true,false,null,0,12]}");
        t.put("1", 5, 1);
        t.x.open();
        t.put("2", 5, 1);
        t.x.open();
        t.put("3", 5, 1);
        t.prints(0, 5, "1");
        t.prints(1, 5, "2");
        t.prints(-1, 5, "3");
        t.type("x");
        t.prints(0, 0, "{\"a\":[],\"b\":{},\"\\\\\":[true,false,null,0,12]}");
        t.due("size(0)", t.x.size(0), 1);
    }

    /** Copies of a string of ten escaped characters make a document longer than any text. */
    private static void longest() {
        Trial t = new Trial("longest output");
        t.put("{\"A\":\"\\\"\\\"\\\"\\\"\\\"\\\"\\\"\\\"\\\"\\\"\"}", 0, 2);
        StringBuilder want = new StringBuilder("{\"A\":\"\\\"\\\"\\\"\\\"\\\"\\\"\\\"\\\"\\\"\\\"\"");
        for (char c = 'B'; c < 'B' + 8; c++) {
            t.patch("[{\"op\":\"copy\",\"from\":\"/A\",\"path\":\"/" + c + "\"}]", 0, c - 'A' + 2);
            want.append(",\"").append(c).append("\":\"\\\"\\\"\\\"\\\"\\\"\\\"\\\"\\\"\\\"\\\"\"");
        }
        t.due("print(-1, 0)", t.x.print(-1, 0), want.length() + 1);
        t.due("last", t.x.output(want.length()), '}');
        t.due("behind the last", t.x.output(want.length() + 1), PagedValues.BAD);
    }

    private static void wrongOnes() {
        Trial t = new Trial("wrong print");
        t.put("12", 5, 1);
        t.x.open();
        t.put("3", 6, 1);
        t.prints(-1, 5, "12");
        for (int n : new int[] {-2, 1, 2, 3, Integer.MIN_VALUE, Integer.MAX_VALUE}) {
            t.due("print(" + n + ", 5)", t.x.print(n, 5), PagedValues.BAD);
        }
        for (int n : new int[] {-2, -1, 0, 7, 8, Integer.MIN_VALUE, Integer.MAX_VALUE}) {
            t.due("print(-1, " + n + ")", t.x.print(-1, n), PagedValues.BAD);
        }
        t.due("print(0, 6)", t.x.print(0, 6), PagedValues.BAD);
        t.due("output after BAD", t.written(), "12");
        t.x.close(0);
        t.due("print(0, 5)", t.x.print(0, 5), PagedValues.BAD);
        t.x.fuse(1);
        t.put("4", 5, PagedValues.DOWN);
        t.due("print when stopped", t.x.print(-1, 5), PagedValues.DOWN);
        t.due("print when stopped", t.x.print(7, 9), PagedValues.DOWN);
        t.due("output after DOWN", t.written(), "12");
    }
}
