/** Promise 6: the form of queries and what they select. */
public final class Promise06QueryTest extends Cases {
    private static final String DOCUMENT = "{\"a\":[1,{\"b\":-7}],\"c\":\"q\",\"b\":[[2]]}";

    public static void main(String[] args) {
        selects();
        goesDeep();
        faults();
        faultsInNames();
        oneAfterTheOther();
        selectorsAtMostEight();
        documents();
        tooMany();
        tooManyOnTheWay();
        answersThatChangeNothing();
        Trial.end();
    }

    private static void selects() {
        found(DOCUMENT, "$", DOCUMENT);
        found(DOCUMENT, "$.a", "[1,{\"b\":-7}]");
        found(DOCUMENT, "$['a']", "[1,{\"b\":-7}]");
        found(DOCUMENT, "$.a.b");
        found(DOCUMENT, "$.x");
        found(DOCUMENT, "$.a[1].b", "-7");
        found(DOCUMENT, "$.*", "[1,{\"b\":-7}]", "\"q\"", "[[2]]");
        found(DOCUMENT, "$[*]", "[1,{\"b\":-7}]", "\"q\"", "[[2]]");
        found(DOCUMENT, "$.*.*", "1", "{\"b\":-7}", "[2]");
        found(DOCUMENT, "$['c','a','c']", "\"q\"", "[1,{\"b\":-7}]", "\"q\"");
        found(DOCUMENT, "$[0]");
        found(DOCUMENT, "$.c[0]");
        found(DOCUMENT, "$.c.*");
        found(DOCUMENT, "$.*[0,-1]", "1", "{\"b\":-7}", "[2]", "[2]");
        found("[10,11,12]", "$[0,1,2,3,999]", "10", "11", "12");
        found("[10,11,12]", "$[-1,-2,-3,-4,-999]", "12", "11", "10");
        found("[10,11,12]", "$[0,*,-3]", "10", "10", "11", "12", "10");
        found("[10,11,12]", "$['0']");
        found("[]", "$[0,-1,*]");
        found("5", "$.*");
        found("\"abc\"", "$[0]");
        found("{\"\":1,\" \":2}", "$['',' ']", "1", "2");
        found("{\"a_Z09\":1,\"_\":2}", "$.a_Z09", "1");
        found("{\"a_Z09\":1,\"_\":2}", "$._", "2");
        found("{\"abcdefghij\":1}", "$.abcdefghij", "1");
        found("{\"abcdefghij\":1}", "$['abcdefghij']", "1");
        found("{\"\\\"]\u00ff\":1}", "$['\"]\u00ff']", "1");
        found("{\"a\":1,\"A\":2}", "$.A", "2");
        found("{\"azAZ_09\":1,\"z\":2,\"Z\":3}", "$.azAZ_09", "1");
        found("{\"azAZ_09\":1,\"z\":2,\"Z\":3}", "$.z", "2");
        found("{\"azAZ_09\":1,\"z\":2,\"Z\":3}", "$.Z", "3");
    }

    private static void goesDeep() {
        found(DOCUMENT, "$..b", "[[2]]", "-7");
        found(DOCUMENT, "$..*", "[1,{\"b\":-7}]", "\"q\"", "[[2]]", "1", "{\"b\":-7}", "-7", "[2]", "2");
        found(DOCUMENT, "$..[0]", "1", "[2]", "2");
        found(DOCUMENT, "$..['b',0]", "[[2]]", "1", "-7", "[2]", "2");
        found(DOCUMENT, "$.b..[*]", "[2]", "2");
        found(DOCUMENT, "$..*..b", "-7", "-7");
        found("[[[[1]]]]", "$..[0]", "[[[1]]]", "[[1]]", "[1]", "1");
        found("[[[[1]]]]", "$..*..*", "[[1]]", "[1]", "1", "[1]", "1", "1");
        found("{\"a\":{\"a\":{\"a\":1}}}", "$..a", "{\"a\":{\"a\":1}}", "{\"a\":1}", "1");
        found("{\"a\":{\"a\":{\"a\":1}}}", "$..a.a", "{\"a\":1}", "1");
        found("[{\"a\":1},[{\"a\":2}],{\"a\":3}]", "$..a", "1", "2", "3");
        found("[[1,2],[3]]", "$..[0,1]", "[1,2]", "[3]", "1", "2", "3");
        found("1", "$..*");
    }

    private static void faults() {
        queryFault("", 0);
        queryFault("a", 0);
        queryFault(" $", 0);
        queryFault("$ ", 1);
        queryFault("$$", 1);
        queryFault("$a", 1);
        queryFault("$*", 1);
        queryFault("$.", 2);
        queryFault("$..", 3);
        queryFault("$...a", 3);
        queryFault("$. a", 2);
        queryFault("$.1", 2);
        queryFault("$.-", 2);
        queryFault("$.[0]", 2);
        queryFault("$.'a'", 2);
        queryFault("$.a*", 3);
        queryFault("$.a b", 3);
        queryFault("$.\u00e4", 2);
        queryFault("$.a\u00e4", 3);
        queryFault("$..1", 3);
        queryFault("$.**", 3);
        queryFault("$.abcdefghijk", 12);
        queryFault("$..abcdefghij_", 13);
        queryFault("$[", 2);
        queryFault("$[]", 2);
        queryFault("$..[]", 4);
        queryFault("$[,", 2);
        queryFault("$[a]", 2);
        queryFault("$[ 0]", 2);
        queryFault("$[0 ]", 3);
        queryFault("$[0", 3);
        queryFault("$[0,", 4);
        queryFault("$[0,]", 4);
        queryFault("$[0]]", 4);
        queryFault("$[00]", 3);
        queryFault("$[01]", 3);
        queryFault("$[-]", 3);
        queryFault("$[-0]", 3);
        queryFault("$[-01]", 3);
        queryFault("$[--1]", 3);
        queryFault("$[-", 3);
        queryFault("$[+1]", 2);
        queryFault("$[1000]", 5);
        queryFault("$[-1000]", 6);
        queryFault("$[1:2]", 3);
        queryFault("$[\"a\"]", 2);
        queryFault("$['", 3);
        queryFault("$['a", 4);
        queryFault("$['a]", 5);
        queryFault("$['a'", 5);
        queryFault("$['a''b']", 5);
        queryFault("$['\\'']", 3);
        queryFault("$['a\t']", 4);
        queryFault("$['a\u0100']", 4);
        queryFault("$['abcdefghijk']", 13);
        queryFault("$['abcdefghij", 13);
        queryFault("$[**]", 3);
    }

    /** The characters next to the letters and digits are none. */
    private static void faultsInNames() {
        for (char c : "@[`{^/:".toCharArray()) {
            queryFault("$." + c, 2);
        }
        for (char c : "@`{^/:".toCharArray()) {
            queryFault("$.a" + c, 3);
        }
    }

    /** Nothing of a query is left over for the next one. */
    private static void oneAfterTheOther() {
        Trial t = new Trial("one query after the other");
        t.put("{\"a\":[5,6],\"b\":{\"a\":7}}", 0, 6);
        t.query("$.a[1,0]", -1, 0, 2);
        t.results("0:6", "0:5");
        t.query("$['b']['a',0]", -1, 0, 1);
        t.results("0:7");
        t.query("$..*", -1, 0, 5);
        t.query("$.*", -1, 0, 2);
        t.query("$..a[0]", -1, 0, 1);
        t.results("0:5");
        t.query("$['a','b'].a", -1, 0, 1);
        t.results("0:7");
        t.query("$", -1, 0, 1);
    }

    private static void selectorsAtMostEight() {
        found("[10]", "$[0,0,0,0,0,0,0,0]", "10", "10", "10", "10", "10", "10", "10", "10");
        queryFault("$[0,0,0,0,0,0,0,0,0]", 18);
        queryFault("$[0,0,0,0,0,0,0,0,", 18);
        queryFault("$[0,0,0,0,0,0,0,0].a", 19);
        queryFault("$[0,0,0,0,0,0,0,0]..*", 20);
        queryFault("$[0,0,0,0,0,0,0,0].", 19);
        queryFault("$[0,0,0,0,0,0,0,0]..", 20);
        queryFault("$[0,0,0,0,0,0,0,0]...", 20);
        queryFault("$[0,0,0,0,0,0,0,0][", 19);
        queryFault("$[0,0,0,0,0,0,0,0][0", 19);
        queryFault("$[0,0,0,0,0,0,0,0]..[*]", 21);
        queryFault("$.a.b.*.d.e.f.g.h.i", 18);
        queryFault("$.a.b..*.d..e.f[0].h['i']", 21);
        found("[10]", "$.a.b.*.d.e.f.g.h");
    }

    private static void documents() {
        Trial t = new Trial("documents");
        t.put("[3]", 7, 2);
        t.put("[1]", 4, 2);
        t.x.open();
        t.x.open();
        t.put("[0,0]", 0, 3);
        t.put("9", 4, 1);
        t.due("size(0)", t.x.size(0), 0);
        t.query("$[*]", -1, -1, 3);
        t.results("0:0", "0:0", "7:3");
        t.query("$..*", 0, -1, 2);
        t.results("4:1", "7:3");
        t.query("$", 1, 7, 1);
        t.results("7:[3]");
        t.query("$", -1, -1, 3);
        t.results("0:[0,0]", "4:9", "7:[3]");
        t.x.close(0);
        t.type("$");
        t.due("closed reader", t.x.query(0, -1), PagedValues.BAD);
        t.due("open reader without document", t.x.query(1, 0), PagedValues.BAD);
        t.due("open reader", t.x.query(1, 4), 1);
        t.results("4:[1]");

        Trial none = new Trial("no documents");
        none.x.open();
        none.query("$", -1, -1, 0);
        none.query("$", 0, -1, 0);
        none.query("x", 0, -1, -100);
    }

    private static void tooMany() {
        Trial t = new Trial("too many");
        t.put("[1,2,3,4,5,6,7,8]", 1, 9);
        t.query("$[*,*,*,*]", -1, 1, 32);
        t.query("$[*,*,*,*,0]", -1, 1, PagedValues.TOO_MANY);
        t.due("size(0)", t.x.size(0), 0);
        t.results();
        t.put("9", 2, 1);
        t.query("$[*,*,*,*]", -1, -1, 32);
        t.query("$[*,*,*]", -1, -1, 24);
        t.put("[1,2,3,4,5,6,7,8]", 6, 9);
        t.query("$[*,*]", -1, -1, 32);
        t.due("result(15)", t.x.result(15), 1);
        t.due("result(16)", t.x.result(16), 6);
        t.due("result(31)", t.x.result(31), 6);
        t.due("result(32)", t.x.result(32), PagedValues.BAD);
        t.query("$[*,*,0]", -1, -1, PagedValues.TOO_MANY);
        t.results();
        t.query("$[*,*,*,*]", -1, 6, 32);
    }

    private static void tooManyOnTheWay() {
        Trial t = new Trial("too many on the way");
        t.put("[1,2,3,4,5,6,7,8,[9]]", 0, 11);
        t.query("$[*,*,*,*].*", -1, 0, PagedValues.TOO_MANY);
        t.query("$[*,*,*].*", -1, 0, 3);
        t.query("$[*,*,*,*].*.x", -1, 0, PagedValues.TOO_MANY);
        t.query("$..*.x", -1, 0, 0);
        t.put("[[[[1,2,3,4,5]]]]", 0, 9);
        t.query("$..*..*", -1, 0, 18);
        t.query("$..*..*..*", -1, 0, 16);
        t.put("[[[[1,2,3,4,5,6,7,8]]]]", 0, 12);
        t.query("$..*..*", -1, 0, 27);
        t.query("$..[*,*]..*", -1, 0, PagedValues.TOO_MANY);
        t.query("$..[*,*,*]..x", -1, 0, PagedValues.TOO_MANY);
    }

    private static void answersThatChangeNothing() {
        Trial t = new Trial("answers that change nothing");
        t.put("[1]", 5, 2);
        t.query("$", -1, 5, 1);
        t.type("$[0]");
        int[] odd = {-2, 0, 1, 2, 3, 8, Integer.MIN_VALUE, Integer.MAX_VALUE};
        for (int n : odd) {
            t.due("query(" + n + ", 5)", t.x.query(n, 5), PagedValues.BAD);
            t.due("query(-1, " + n + ")", t.x.query(-1, n), PagedValues.BAD);
        }
        t.due("size(0)", t.x.size(0), 4);
        t.results("5:[1]");
        t.due("query(-1, 5)", t.x.query(-1, 5), 1);
        t.results("5:1");

        t.x.fuse(1);
        t.due("remove(5)", t.x.remove(5), PagedValues.DOWN);
        t.due("query when stopped", t.x.query(-1, -1), PagedValues.DOWN);
        t.due("query when stopped", t.x.query(9, 9), PagedValues.DOWN);
        t.results("5:1");
    }
}
