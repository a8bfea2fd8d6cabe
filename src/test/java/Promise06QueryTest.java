/** Promise 6: the form of queries and what they select. */
public final class Promise06QueryTest {
    private static final String DOCUMENT = "{\"a\":[1,{\"b\":-7}],\"c\":\"q\",\"b\":[[2]]}";

    public static void main(String[] args) {
        selects();
        goesDeep();
        faults();
        faultsInNames();
        oneAfterTheOther();
        selectorsAtMostEight();
        documents();
        tooMany();
        tooManyOnTheWay();
        answersThatChangeNothing();
        Trial.end();
    }

    private static void finds(String document, String query, String... results) {
        Trial t = new Trial("query of " + document);
        t.type(document).x.put(0);
        t.query(query, -1, 0, results.length);
        t.sizes(0, 1, 0, 3, 1, 1, 0);
        String[] want = new String[results.length];
        for (int i = 0; i < want.length; i++) {
            want[i] = "0:" + results[i];
        }
        t.results(want);
    }

    private static void fault(String query, int place) {
        Trial t = new Trial("fault");
        t.put("[1]", 0, 2);
        t.query("$", -1, 0, 1);
        t.query(query, -1, 0, -100 - place);
        t.due("size(0)", t.x.size(0), 0);
        t.results();
    }

    private static void selects() {
        finds(DOCUMENT, "$", DOCUMENT);
        finds(DOCUMENT, "$.a", "[1,{\"b\":-7}]");
        finds(DOCUMENT, "$['a']", "[1,{\"b\":-7}]");
        finds(DOCUMENT, "$.a.b");
        finds(DOCUMENT, "$.x");
        finds(DOCUMENT, "$.a[1].b", "-7");
        finds(DOCUMENT, "$.*", "[1,{\"b\":-7}]", "\"q\"", "[[2]]");
        finds(DOCUMENT, "$[*]", "[1,{\"b\":-7}]", "\"q\"", "[[2]]");
        finds(DOCUMENT, "$.*.*", "1", "{\"b\":-7}", "[2]");
        finds(DOCUMENT, "$['c','a','c']", "\"q\"", "[1,{\"b\":-7}]", "\"q\"");
        finds(DOCUMENT, "$[0]");
        finds(DOCUMENT, "$.c[0]");
        finds(DOCUMENT, "$.c.*");
        finds(DOCUMENT, "$.*[0,-1]", "1", "{\"b\":-7}", "[2]", "[2]");
        finds("[10,11,12]", "$[0,1,2,3,999]", "10", "11", "12");
        finds("[10,11,12]", "$[-1,-2,-3,-4,-999]", "12", "11", "10");
        finds("[10,11,12]", "$[0,*,-3]", "10", "10", "11", "12", "10");
        finds("[10,11,12]", "$['0']");
        finds("[]", "$[0,-1,*]");
        finds("5", "$.*");
        finds("\"abc\"", "$[0]");
        finds("{\"\":1,\" \":2}", "$['',' ']", "1", "2");
        finds("{\"a_Z09\":1,\"_\":2}", "$.a_Z09", "1");
        finds("{\"a_Z09\":1,\"_\":2}", "$._", "2");
        finds("{\"abcdefghij\":1}", "$.abcdefghij", "1");
        finds("{\"abcdefghij\":1}", "$['abcdefghij']", "1");
        finds("{\"\\\"]\u00ff\":1}", "$['\"]\u00ff']", "1");
        finds("{\"a\":1,\"A\":2}", "$.A", "2");
        finds("{\"azAZ_09\":1,\"z\":2,\"Z\":3}", "$.azAZ_09", "1");
        finds("{\"azAZ_09\":1,\"z\":2,\"Z\":3}", "$.z", "2");
        finds("{\"azAZ_09\":1,\"z\":2,\"Z\":3}", "$.Z", "3");
    }

    private static void goesDeep() {
        finds(DOCUMENT, "$..b", "[[2]]", "-7");
        finds(DOCUMENT, "$..*", "[1,{\"b\":-7}]", "\"q\"", "[[2]]", "1", "{\"b\":-7}", "-7", "[2]", "2");
        finds(DOCUMENT, "$..[0]", "1", "[2]", "2");
        finds(DOCUMENT, "$..['b',0]", "[[2]]", "1", "-7", "[2]", "2");
        finds(DOCUMENT, "$.b..[*]", "[2]", "2");
        finds(DOCUMENT, "$..*..b", "-7", "-7");
        finds("[[[[1]]]]", "$..[0]", "[[[1]]]", "[[1]]", "[1]", "1");
        finds("[[[[1]]]]", "$..*..*", "[[1]]", "[1]", "1", "[1]", "1", "1");
        finds("{\"a\":{\"a\":{\"a\":1}}}", "$..a", "{\"a\":{\"a\":1}}", "{\"a\":1}", "1");
        finds("{\"a\":{\"a\":{\"a\":1}}}", "$..a.a", "{\"a\":1}", "1");
        finds("[{\"a\":1},[{\"a\":2}],{\"a\":3}]", "$..a", "1", "2", "3");
        finds("[[1,2],[3]]", "$..[0,1]", "[1,2]", "[3]", "1", "2", "3");
        finds("1", "$..*");
    }

    private static void faults() {
        fault("", 0);
        fault("a", 0);
        fault(" $", 0);
        fault("$ ", 1);
        fault("$$", 1);
        fault("$a", 1);
        fault("$*", 1);
        fault("$.", 2);
        fault("$..", 3);
        fault("$...a", 3);
        fault("$. a", 2);
        fault("$.1", 2);
        fault("$.-", 2);
        fault("$.[0]", 2);
        fault("$.'a'", 2);
        fault("$.a*", 3);
        fault("$.a b", 3);
        fault("$.\u00e4", 2);
        fault("$.a\u00e4", 3);
        fault("$..1", 3);
        fault("$.**", 3);
        fault("$.abcdefghijk", 12);
        fault("$..abcdefghij_", 13);
        fault("$[", 2);
        fault("$[]", 2);
        fault("$..[]", 4);
        fault("$[,", 2);
        fault("$[a]", 2);
        fault("$[ 0]", 2);
        fault("$[0 ]", 3);
        fault("$[0", 3);
        fault("$[0,", 4);
        fault("$[0,]", 4);
        fault("$[0]]", 4);
        fault("$[00]", 3);
        fault("$[01]", 3);
        fault("$[-]", 3);
        fault("$[-0]", 3);
        fault("$[-01]", 3);
        fault("$[--1]", 3);
        fault("$[-", 3);
        fault("$[+1]", 2);
        fault("$[1000]", 5);
        fault("$[-1000]", 6);
        fault("$[1:2]", 3);
        fault("$[\"a\"]", 2);
        fault("$['", 3);
        fault("$['a", 4);
        fault("$['a]", 5);
        fault("$['a'", 5);
        fault("$['a''b']", 5);
        fault("$['\\'']", 3);
        fault("$['a\t']", 4);
        fault("$['a\u0100']", 4);
        fault("$['abcdefghijk']", 13);
        fault("$['abcdefghij", 13);
        fault("$[**]", 3);
    }

    /** The characters next to the letters and digits are none. */
    private static void faultsInNames() {
        for (char c : "@[`{^/:".toCharArray()) {
            fault("$." + c, 2);
        }
        for (char c : "@`{^/:".toCharArray()) {
            fault("$.a" + c, 3);
        }
    }

    /** Nothing of a query is left over for the next one. */
    private static void oneAfterTheOther() {
        Trial t = new Trial("one query after the other");
        t.put("{\"a\":[5,6],\"b\":{\"a\":7}}", 0, 6);
        t.query("$.a[1,0]", -1, 0, 2);
        t.results("0:6", "0:5");
        t.query("$['b']['a',0]", -1, 0, 1);
        t.results("0:7");
        t.query("$..*", -1, 0, 5);
        t.query("$.*", -1, 0, 2);
        t.query("$..a[0]", -1, 0, 1);
        t.results("0:5");
        t.query("$['a','b'].a", -1, 0, 1);
        t.results("0:7");
        t.query("$", -1, 0, 1);
    }

    private static void selectorsAtMostEight() {
        finds("[10]", "$[0,0,0,0,0,0,0,0]", "10", "10", "10", "10", "10", "10", "10", "10");
        fault("$[0,0,0,0,0,0,0,0,0]", 18);
        fault("$[0,0,0,0,0,0,0,0,", 18);
        fault("$[0,0,0,0,0,0,0,0].a", 19);
        fault("$[0,0,0,0,0,0,0,0]..*", 20);
        fault("$[0,0,0,0,0,0,0,0].", 19);
        fault("$[0,0,0,0,0,0,0,0]..", 20);
        fault("$[0,0,0,0,0,0,0,0]...", 20);
        fault("$[0,0,0,0,0,0,0,0][", 19);
        fault("$[0,0,0,0,0,0,0,0][0", 19);
        fault("$[0,0,0,0,0,0,0,0]..[*]", 21);
        fault("$.a.b.*.d.e.f.g.h.i", 18);
        fault("$.a.b..*.d..e.f[0].h['i']", 21);
        finds("[10]", "$.a.b.*.d.e.f.g.h");
    }

    private static void documents() {
        Trial t = new Trial("documents");
        t.put("[3]", 7, 2);
        t.put("[1]", 4, 2);
        t.x.open();
        t.x.open();
        t.put("[0,0]", 0, 3);
        t.put("9", 4, 1);
        t.due("size(0)", t.x.size(0), 0);
        t.query("$[*]", -1, -1, 3);
        t.results("0:0", "0:0", "7:3");
        t.query("$..*", 0, -1, 2);
        t.results("4:1", "7:3");
        t.query("$", 1, 7, 1);
        t.results("7:[3]");
        t.query("$", -1, -1, 3);
        t.results("0:[0,0]", "4:9", "7:[3]");
        t.x.close(0);
        t.type("$");
        t.due("closed reader", t.x.query(0, -1), PagedValues.BAD);
        t.due("open reader without document", t.x.query(1, 0), PagedValues.BAD);
        t.due("open reader", t.x.query(1, 4), 1);
        t.results("4:[1]");

        Trial none = new Trial("no documents");
        none.x.open();
        none.query("$", -1, -1, 0);
        none.query("$", 0, -1, 0);
        none.query("x", 0, -1, -100);
    }

    private static void tooMany() {
        Trial t = new Trial("too many");
        t.put("[1,2,3,4,5,6,7,8]", 1, 9);
        t.query("$[*,*,*,*]", -1, 1, 32);
        t.query("$[*,*,*,*,0]", -1, 1, PagedValues.TOO_MANY);
        t.due("size(0)", t.x.size(0), 0);
        t.results();
        t.put("9", 2, 1);
        t.query("$[*,*,*,*]", -1, -1, 32);
        t.query("$[*,*,*]", -1, -1, 24);
        t.put("[1,2,3,4,5,6,7,8]", 6, 9);
        t.query("$[*,*]", -1, -1, 32);
        t.due("result(15)", t.x.result(15), 1);
        t.due("result(16)", t.x.result(16), 6);
        t.due("result(31)", t.x.result(31), 6);
        t.due("result(32)", t.x.result(32), PagedValues.BAD);
        t.query("$[*,*,0]", -1, -1, PagedValues.TOO_MANY);
        t.results();
        t.query("$[*,*,*,*]", -1, 6, 32);
    }

    private static void tooManyOnTheWay() {
        Trial t = new Trial("too many on the way");
        t.put("[1,2,3,4,5,6,7,8,[9]]", 0, 11);
        t.query("$[*,*,*,*].*", -1, 0, PagedValues.TOO_MANY);
        t.query("$[*,*,*].*", -1, 0, 3);
        t.query("$[*,*,*,*].*.x", -1, 0, PagedValues.TOO_MANY);
        t.query("$..*.x", -1, 0, 0);
        t.put("[[[[1,2,3,4,5]]]]", 0, 9);
        t.query("$..*..*", -1, 0, 18);
        t.query("$..*..*..*", -1, 0, 16);
        t.put("[[[[1,2,3,4,5,6,7,8]]]]", 0, 12);
        t.query("$..*..*", -1, 0, 27);
        t.query("$..[*,*]..*", -1, 0, PagedValues.TOO_MANY);
        t.query("$..[*,*,*]..x", -1, 0, PagedValues.TOO_MANY);
    }

    private static void answersThatChangeNothing() {
        Trial t = new Trial("answers that change nothing");
        t.put("[1]", 5, 2);
        t.query("$", -1, 5, 1);
        t.type("$[0]");
        int[] odd = {-2, 0, 1, 2, 3, 8, Integer.MIN_VALUE, Integer.MAX_VALUE};
        for (int n : odd) {
            t.due("query(" + n + ", 5)", t.x.query(n, 5), PagedValues.BAD);
            t.due("query(-1, " + n + ")", t.x.query(-1, n), PagedValues.BAD);
        }
        t.due("size(0)", t.x.size(0), 4);
        t.results("5:[1]");
        t.due("query(-1, 5)", t.x.query(-1, 5), 1);
        t.results("5:1");

        t.x.fuse(1);
        t.due("remove(5)", t.x.remove(5), PagedValues.DOWN);
        t.due("query when stopped", t.x.query(-1, -1), PagedValues.DOWN);
        t.due("query when stopped", t.x.query(9, 9), PagedValues.DOWN);
        t.results("5:1");
    }
}
