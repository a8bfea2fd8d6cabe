/** Promise 4: lists of operations change a document, whole or not at all. */
public final class Promise04PatchTest extends Cases {
    public static void main(String[] args) {
        adds();
        removes();
        replaces();
        copies();
        pointers();
        lists();
        malformed();
        tooBig();
        tooBigByDepth();
        orderOfAnswers();
        olderStatesStay();
        Trial.end();
    }

    private static void adds() {
        changed("[1]", add("", "{\"a\":2}"), 2, "{\"a\":2}");
        changed("{}", add("/a", "1"), 2, "{\"a\":1}");
        changed("{\"a\":1,\"b\":2}", add("/a", "[]"), 3, "{\"a\":[],\"b\":2}");
        changed("{\"a\":1,\"b\":2}", add("/c", "3"), 4, "{\"a\":1,\"b\":2,\"c\":3}");
        changed("{\"a\":1}", add("/", "3"), 3, "{\"a\":1,\"\":3}");
        changed("{\"a\":1}", add("/-", "3"), 3, "{\"a\":1,\"-\":3}");
        changed("{\"a\":1}", add("/01", "3"), 3, "{\"a\":1,\"01\":3}");
        changed("[1,2]", add("/0", "3"), 4, "[3,1,2]");
        changed("[1,2]", add("/1", "3"), 4, "[1,3,2]");
        changed("[1,2]", add("/2", "3"), 4, "[1,2,3]");
        changed("[1,2]", add("/-", "3"), 4, "[1,2,3]");
        changed("[]", add("/-", "3"), 2, "[3]");
        changed("[]", add("/0", "3"), 2, "[3]");
        changed("[[],{\"a\":[]}]", add("/1/a/-", "[null]"), 6, "[[],{\"a\":[[null]]}]");
        fails("[1,2]", add("/3", "3"));
        fails("[1,2]", add("/01", "3"));
        fails("[1,2]", add("/00", "3"));
        fails("[1,2]", add("/-1", "3"));
        fails("[1,2]", add("/", "3"));
        fails("[1,2]", add("/a", "3"));
        fails("[1,2]", add("/--", "3"));
        fails("[1,2]", add("/999999999", "3"));
        fails("[1,2]", add("/0/0", "3"));
        fails("[1,2]", add("/2/0", "3"));
        fails("[[]]", add("/-/0", "3"));
        fails("{\"a\":1}", add("/b/c", "3"));
        fails("{\"a\":1}", add("/a/b", "3"));
        fails("1", add("/a", "3"));
        fails("\"a\"", add("/0", "3"));
        fails("null", add("/", "3"));
    }

    private static void removes() {
        changed("[1,2,3]", remove("/0"), 3, "[2,3]");
        changed("[1,2,3]", remove("/1"), 3, "[1,3]");
        changed("[1,2,3]", remove("/2"), 3, "[1,2]");
        changed("{\"a\":1}", remove("/a"), 1, "{}");
        changed("{\"a\":1,\"b\":2,\"c\":3}", remove("/b"), 3, "{\"a\":1,\"c\":3}");
        changed("{\"a\":{\"b\":[1,[]]}}", remove("/a/b/1"), 4, "{\"a\":{\"b\":[1]}}");
        fails("[1,2,3]", remove(""));
        fails("[1,2,3]", remove("/3"));
        fails("[1,2,3]", remove("/-"));
        fails("[1,2,3]", remove("/00"));
        fails("{\"a\":1}", remove("/b"));
        fails("{\"a\":1}", remove("/a/"));
        fails("{\"a\":1}", remove("/b/a"));
        fails("1", remove("/0"));
    }

    private static void replaces() {
        changed("[1,2]", replace("", "null"), 1, "null");
        changed("[1,2]", replace("/0", "[3]"), 4, "[[3],2]");
        changed("[1,2]", replace("/1", "3"), 3, "[1,3]");
        changed("{\"a\":1,\"b\":2}", replace("/a", "3"), 3, "{\"a\":3,\"b\":2}");
        changed("{\"a\":{\"b\":1}}", replace("/a/b", "{}"), 3, "{\"a\":{\"b\":{}}}");
        fails("[1,2]", replace("/2", "3"));
        fails("[1,2]", replace("/-", "3"));
        fails("{\"a\":1}", replace("/b", "3"));
        fails("{\"a\":1}", replace("/a/b", "3"));
    }

    private static void copies() {
        changed("{\"a\":[1]}", copy("/a", "/b"), 5, "{\"a\":[1],\"b\":[1]}");
        changed("{\"a\":[1],\"b\":2}", copy("/a", "/b"), 5, "{\"a\":[1],\"b\":[1]}");
        changed("{\"a\":[1]}", copy("/a", ""), 2, "[1]");
        changed("{\"a\":[1]}", copy("", ""), 3, "{\"a\":[1]}");
        changed("{\"a\":[1]}", copy("", "/a"), 4, "{\"a\":{\"a\":[1]}}");
        changed("{\"a\":[1]}", copy("", "/a/0"), 6, "{\"a\":[{\"a\":[1]},1]}");
        changed("{\"a\":[1]}", copy("/a", "/a"), 3, "{\"a\":[1]}");
        changed("[1,2]", copy("/1", "/0"), 4, "[2,1,2]");
        changed("[1,2]", copy("/0", "/-"), 4, "[1,2,1]");
        changed("[[],2]", copy("/0", "/-") + "," + add("/0/0", "5"), 5, "[[5],2,[]]");
        changed("[[]]", add("/0/0", "5") + "," + copy("/0", "/1"), 5, "[[5],[5]]");
        fails("[1,2]", copy("/2", "/0"));
        fails("[1,2]", copy("/-", "/0"));
        fails("[1,2]", copy("/0", "/3"));
        fails("[1,2]", copy("/0", "a"));
        fails("[1,2]", copy("a", "/0"));
        fails("[1,2]", copy("/~", "/0"));
    }

    private static void pointers() {
        changed("{\"~\":1,\"/\":2}", remove("/~0"), 2, "{\"/\":2}");
        changed("{\"~\":1,\"/\":2}", remove("/~1"), 2, "{\"~\":1}");
        changed("{\"~1\":1,\"/\":2}", remove("/~01"), 2, "{\"/\":2}");
        changed("{\"a\":1}", add("/~0~1~1~0", "2"), 3, "{\"a\":1,\"~//~\":2}");
        changed("{\"\":{\"\":1}}", remove("//"), 2, "{\"\":{}}");
        changed("{\"\\\"\":1}", remove("/\\\""), 1, "{}");
        changed("{\"0\":[7,8]}", remove("/0/0"), 3, "{\"0\":[8]}");
        changed("[0,1,2,3,4,5,6,7,8,9,10,11]", remove("/10"), 12, "[0,1,2,3,4,5,6,7,8,9,11]");
        fails("{\"a\":1,\"~\":2}", remove("a"));
        fails("{\"a\":1,\"~\":2}", remove("/~"));
        fails("{\"a\":1,\"~\":2}", remove("/~2"));
        fails("{\"a\":1,\"~\":2}", add("/b~", "1"));
        fails("{\"a\":1,\"~\":2}", add("/~/0", "1"));
        fails("{\"a\":1,\"~\":2}", add("~0", "1"));
        fails("{\"a\":1,\"~\":2}", add(" /a", "1"));
    }

    private static void lists() {
        changed("[1]", "", 2, "[1]");
        changed("[1]", "{\"x\":[],\"path\":\"/0\",\"value\":0,\"op\":\"remove\",\"from\":1}", 1, "[]");
        changed("[1]", "{\"value\":0,\"path\":\"/0\",\"op\":\"add\",\"from\":\"x\"}", 3, "[0,1]");
        changed("[1]", add("/0", "2") + "," + remove("/1"), 2, "[2]");
        refused("[1]", "[" + add("/0", "2") + "," + remove("/2") + "]", -11);
        refused("[1]", "[" + remove("/0") + "," + remove("/0") + "]", -11);
        Trial t = new Trial("third operation");
        t.put("{\"a\":1,\"b\":2}", 0, 3);
        t.patch("[{\"op\":\"copy\",\"path\":\"\",\"from\":\"\"}, " + remove("/b") + "]", 0, 2);
        t.prints(-1, 0, "{\"a\":1}");
    }

    private static void malformed() {
        String[] texts = {"1", "null", "\"\"", "{}", "[1]", "[[]]", "[{}]", "[null]", remove("/0"),
            "[{\"op\":\"add\"}]", "[{\"path\":\"/0\"}]", "[{\"op\":\"remove\"}]", "[{\"op\":\"move\",\"path\":\"/0\"}]",
            "[{\"op\":\"\",\"path\":\"/0\"}]", "[{\"op\":\"Add\",\"path\":\"/0\",\"value\":1}]",
            "[{\"op\":1,\"path\":\"/0\"}]", "[{\"op\":\"remove\",\"path\":0}]", "[{\"op\":\"remove\",\"path\":[]}]",
            "[{\"op\":\"add\",\"path\":\"/0\"}]", "[{\"op\":\"replace\",\"path\":\"/0\"}]",
            "[{\"op\":\"add\",\"path\":\"/0\",\"from\":\"/0\"}]", "[{\"op\":\"copy\",\"path\":\"/0\"}]",
            "[{\"op\":\"copy\",\"path\":\"/0\",\"from\":1}]", "[{\"op\":\"copy\",\"path\":\"/0\",\"value\":1}]",
            "[{\"op\":\"copy\",\"path\":\"/0\",\"from\":null}]",
            "[" + remove("/9") + ",1]", "[" + remove("/0") + ",{}]", "[" + remove("x") + ",{\"op\":\"remove\"}]"};
        for (String text : texts) {
            refused("[1]", text, PagedValues.MALFORMED);
        }
        changed("[1]", "{\"op\":\"add\",\"path\":\"/0\",\"value\":null}", 3, "[null,1]");
    }

    private static void tooBig() {
        String most = "[1,1,1,1,1,1,1,1,1,1,1,1,1,1,1,1,1,1,1,1,1,1,1]";
        refused(most, "[" + add("/0", "1") + "]", PagedValues.TOO_BIG);
        refused(most, "[" + add("/0", "1") + "," + remove("/0") + "]", PagedValues.TOO_BIG);
        refused(most, "[" + add("/0", "1") + "," + remove("/99") + "]", PagedValues.TOO_BIG);
        refused(most, "[" + remove("/99") + "," + add("/0", "1") + "]", -10);
        refused(most, "[" + replace("/0", "[1]") + "]", PagedValues.TOO_BIG);
        refused(most, "[" + copy("", "/0") + "]", PagedValues.TOO_BIG);
        changed(most, replace("/22", "[]"), 24, most.substring(0, 45) + "[]]");
        changed(most, remove("/0") + "," + add("/0", "1"), 24, most);
        refused("[1,1,1,1,1,1,1,1,1,1,1]", "[" + copy("", "/0") + "," + add("/-", "1") + "]", PagedValues.TOO_BIG);
    }

    private static void tooBigByDepth() {
        refused("[[[[]]]]", "[" + add("/0/0/0/0", "[]") + "]", PagedValues.TOO_BIG);
        refused("[[[[]]]]", "[" + add("/0/0/0/0", "{}") + "]", PagedValues.TOO_BIG);
        changed("[[[[]]]]", add("/0/0/0/0", "1"), 5, "[[[[1]]]]");
        refused("[[[[1]]]]", "[" + copy("", "/0/0/0/0") + "]", PagedValues.TOO_BIG);
        refused("[[[[1]]]]", "[" + copy("/0/0/0", "/0/0/0/0") + "]", PagedValues.TOO_BIG);
        refused("[[[1]]]", "[" + copy("", "/0/0/-") + "]", PagedValues.TOO_BIG);
        changed("[[1]]", copy("", "/0/-"), 6, "[[1,[[1]]]]");
        refused("{\"a\":{\"a\":{\"a\":{}}}}", "[" + copy("", "/a") + "]", PagedValues.TOO_BIG);
    }

    private static void orderOfAnswers() {
        Trial t = new Trial("order of answers");
        t.put("[1]", 2, 2);
        t.type("[");
        for (int id : new int[] {-1, 0, 3, 6, 8, Integer.MIN_VALUE, Integer.MAX_VALUE}) {
            t.due("patch(" + id + ")", t.x.patch(id), PagedValues.BAD);
        }
        t.due("size(0)", t.x.size(0), 1);
        t.due("patch(2)", t.x.patch(2), -101);
        t.patch("[{\"op\":1} x]", 2, -110);
        t.patch("", 2, -100);
        t.patch("[]", 2, 2);
        t.sizes(0, 1, 0, 6, 0, 2, 0);

        Trial full = new Trial("full");
        full.fill("[[[[]]]]", 4);
        full.patch("[1]", 0, PagedValues.MALFORMED);
        full.patch("[" + remove("/1") + "]", 0, -10);
        full.patch("[" + add("/0/0/0/0", "[]") + "]", 0, PagedValues.TOO_BIG);
        full.patch("[]", 0, PagedValues.FULL);
        full.sizes(0, 3, 3, 18, 0, 6, 0);

        Trial down = new Trial("down");
        down.put("[1]", 2, 2);
        down.x.fuse(2);
        down.patch("[" + remove("/0") + "]", 2, PagedValues.DOWN);
        down.sizes(0, 1, 0, 5, 1, 1, 1);
        down.due("patch(2)", down.x.patch(2), PagedValues.DOWN);
        down.due("patch(9)", down.x.patch(9), PagedValues.DOWN);
        down.x.restart();
        down.prints(-1, 2, "[1]");
        down.x.fuse(3);
        down.patch("[" + remove("/0") + "]", 2, PagedValues.DOWN);
        down.x.restart();
        down.prints(-1, 2, "[]");
    }

    private static void olderStatesStay() {
        Trial t = new Trial("older states stay");
        t.put("{\"a\":[1]}", 0, 3);
        t.put("{\"b\":[1]}", 1, 3);
        t.x.open();
        t.query("$.a", -1, 0, 1);
        t.patch("[" + add("/a/0", "2") + "," + add("/c", "3") + "]", 0, 5);
        t.prints(-1, 0, "{\"a\":[2,1],\"c\":3}");
        t.prints(-1, 1, "{\"b\":[1]}");
        t.prints(0, 0, "{\"a\":[1]}");
        t.results("0:[1]");
        t.patch("[" + remove("/c") + "," + copy("/a", "/d") + "]", 0, 7);
        t.prints(0, 0, "{\"a\":[1]}");
        t.patch("[" + remove("/d/0") + "]", 0, 6);
        t.prints(-1, 0, "{\"a\":[2,1],\"d\":[1]}");
    }
}
