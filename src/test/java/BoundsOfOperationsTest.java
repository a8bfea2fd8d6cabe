/** The bounds that the section OPERATIONS names: what is a list of them, what fails, and what is too big. */
public final class BoundsOfOperationsTest extends Cases {
    private static final String[] NO_STRINGS = {"null", "true", "0", "[]", "{}", "[\"\"]"};
    private static final String MOST = "[" + row("1", 23) + "]";

    public static void main(String[] args) {
        theEmptyList();
        noLists();
        elementsThatAreNoObjects();
        opAndPath();
        otherOps();
        valueForAddAndReplace();
        fromForCopy();
        noneForRemove();
        otherMembers();
        theWholeListFirst();
        theOneThatFails();
        longestList();
        addToTheWhole();
        addToAnObject();
        addToAnArray();
        addToNothing();
        removals();
        replacements();
        copies();
        copiesAsItIsThen();
        afterEachOperation();
        withinAfterwards();
        Trial.end();
    }

    /** "an array of objects": none at all, too; "written anew (with an empty list, too)". */
    private static void theEmptyList() {
        changed("[1]", "", 2, "[1]");
        changed("7", " ", 1, "7");
        changed(MOST, "", 24, MOST);
    }

    private static void noLists() {
        String[] texts = {"null", "true", "false", "0", "\"\"", "\"[]\"", "{}", remove("/0"), "{\"0\":" + remove("/0") + "}"};
        for (String text : texts) {
            malformed(text);
        }
    }

    private static void elementsThatAreNoObjects() {
        for (String element : new String[] {"null", "true", "0", "\"\"", "\"remove\"", "[]", "[" + remove("/0") + "]"}) {
            malformed("[" + element + "]");
            malformed("[" + remove("/0") + "," + element + "]");
            malformed("[" + element + "," + remove("/0") + "]");
        }
    }

    /** "each with members op and path (strings)" */
    private static void opAndPath() {
        malformed("[{}]");
        malformed("[{\"op\":\"remove\"}]");
        malformed("[{\"path\":\"/0\"}]");
        malformed("[{\"Op\":\"remove\",\"path\":\"/0\"}]");
        malformed("[{\"op\":\"remove\",\"Path\":\"/0\"}]");
        malformed("[{\"op\":\"add\",\"value\":\"/0\"}]");
        for (String other : NO_STRINGS) {
            malformed("[{\"op\":" + other + ",\"path\":\"/0\"}]");
            malformed("[{\"op\":\"remove\",\"path\":" + other + "}]");
            malformed("[{\"op\":\"add\",\"value\":1,\"path\":" + other + "}]");
            malformed("[{\"op\":\"copy\",\"from\":\"\",\"path\":" + other + "}]");
        }
    }

    private static void otherOps() {
        String[] ops = {"", "a", "ad", "addd", "Add", "ADD", " add", "add ", "move", "test", "removed", "remov", "copyy", "cop",
            "replac", "replaces"};
        for (String op : ops) {
            malformed("[{\"op\":\"" + op + "\",\"path\":\"\",\"value\":1,\"from\":\"\"}]");
        }
    }

    /** "value for add and replace": any value, null too. */
    private static void valueForAddAndReplace() {
        malformed("[{\"op\":\"add\",\"path\":\"/0\"}]");
        malformed("[{\"op\":\"replace\",\"path\":\"/0\"}]");
        malformed("[{\"op\":\"add\",\"path\":\"/0\",\"from\":\"/0\"}]");
        malformed("[{\"op\":\"replace\",\"path\":\"/0\",\"from\":\"\"}]");
        malformed("[{\"op\":\"add\",\"path\":\"/0\",\"Value\":1}]");
        for (String value : new String[] {"null", "false", "0", "\"\"", "[]", "{}"}) {
            changed("[1]", add("/0", value), 3, "[" + value + ",1]");
            changed("[1]", replace("/0", value), 2, "[" + value + "]");
        }
    }

    /** "from (a string) for copy" */
    private static void fromForCopy() {
        malformed("[{\"op\":\"copy\",\"path\":\"/0\"}]");
        malformed("[{\"op\":\"copy\",\"path\":\"/0\",\"value\":1}]");
        for (String other : NO_STRINGS) {
            malformed("[{\"op\":\"copy\",\"path\":\"/0\",\"from\":" + other + "}]");
        }
        changed("[1]", copy("/0", "/0"), 3, "[1,1]");
    }

    private static void noneForRemove() {
        changed("[1]", "{\"op\":\"remove\",\"path\":\"/0\"}", 1, "[]");
    }

    /** "other members and their order don't matter": even a from that is no pointer, or no string. */
    private static void otherMembers() {
        changed("[1]", "{\"path\":\"/0\",\"op\":\"remove\"}", 1, "[]");
        changed("[1]", "{\"\":0,\"path\":\"/0\",\"x\":[],\"op\":\"remove\",\"value\":{},\"from\":1}", 1, "[]");
        changed("[1]", "{\"op\":\"remove\",\"path\":\"/0\",\"from\":\"x\"}", 1, "[]");
        changed("[1]", "{\"value\":2,\"from\":null,\"path\":\"/0\",\"op\":\"add\"}", 3, "[2,1]");
        changed("[1]", "{\"op\":\"add\",\"path\":\"/0\",\"value\":2,\"from\":\"/7\"}", 3, "[2,1]");
        changed("[1]", "{\"op\":\"add\",\"path\":\"/0\",\"value\":2,\"from\":\"~\"}", 3, "[2,1]");
        changed("[1]", "{\"op\":\"replace\",\"from\":\"~\",\"value\":2,\"path\":\"/0\"}", 2, "[2]");
        changed("[1]", "{\"from\":\"/0\",\"path\":\"/0\",\"value\":2,\"op\":\"copy\"}", 3, "[1,1]");
    }

    /** "(the whole list is looked at first)" */
    private static void theWholeListFirst() {
        malformed("[" + remove("/9") + ",{}]");
        malformed("[" + remove("x") + ",1]");
        malformed("[" + remove("/0") + ",{\"op\":\"add\",\"path\":\"\"}]");
        refused(MOST, "[" + add("/0", "1") + ",{}]", MALFORMED);
    }

    /** "one that FAILS ends it, and the document stays as it was" */
    private static void theOneThatFails() {
        refused("[1]", "[" + remove("/1") + "]", -10);
        refused("[1]", "[" + remove("/1") + "," + remove("/0") + "]", -10);
        refused("[1]", "[" + remove("/0") + "," + remove("/0") + "]", -11);
        refused("[1]", "[" + remove("/1") + "," + remove("/1") + "]", -10);
        refused("{\"a\":[]}", "[" + add("/a/0", "1") + "," + remove("/b") + "]", -11);
        changed("[1,2]", remove("/1") + "," + remove("/0"), 1, "[]");
    }

    /** No text has room for more than three operations, and the last of these is never reached. */
    private static void longestList() {
        String three = "[" + remove("/") + "," + remove("") + "," + remove("") + "]";
        refused("{\"\":1}", three, -11);
        refused("{\"a\":1}", three, -10);
        refused("{\"\":1}", "[" + remove("") + "," + remove("") + "," + remove("/") + "]", -10);
        refused("{\"\":1}", "[" + remove("") + "," + remove("") + ",{\"op\":\"remove\"}]", MALFORMED);
    }

    /** "the empty path: the document becomes the value" */
    private static void addToTheWhole() {
        for (String document : new String[] {"7", "[1,2]", "{\"a\":1}"}) {
            changed(document, add("", "null"), 1, "null");
            changed(document, add("", "[[5]]"), 3, "[[5]]");
        }
        changed(MOST, add("", "[]"), 1, "[]");
    }

    /** "in an object the member of that name gets the value, or there is a new last member" */
    private static void addToAnObject() {
        changed("{}", add("/a", "1"), 2, "{\"a\":1}");
        changed("{}", add("/", "1"), 2, "{\"\":1}");
        changed("{\"a\":1}", add("/a", "2"), 2, "{\"a\":2}");
        changed("{\"a\":1,\"b\":2,\"c\":3}", add("/a", "4"), 4, "{\"a\":4,\"b\":2,\"c\":3}");
        changed("{\"a\":1,\"b\":2,\"c\":3}", add("/b", "[4]"), 5, "{\"a\":1,\"b\":[4],\"c\":3}");
        changed("{\"a\":1,\"b\":2,\"c\":3}", add("/c", "4"), 4, "{\"a\":1,\"b\":2,\"c\":4}");
        changed("{\"b\":1}", add("/a", "2"), 3, "{\"b\":1,\"a\":2}");
        changed("{\"b\":1}", add("/0", "2"), 3, "{\"b\":1,\"0\":2}");
        changed("{\"b\":1}", add("/-", "2"), 3, "{\"b\":1,\"-\":2}");
        changed("{\"b\":1}", add("/00", "2"), 3, "{\"b\":1,\"00\":2}");
        changed("{\"b\":1}", add("/abcdefghi", "2"), 3, "{\"b\":1,\"abcdefghi\":2}");
        changed("[{\"b\":{}}]", add("/0/b/c", "2"), 4, "[{\"b\":{\"c\":2}}]");
    }

    /** "in an array the value comes in at the number 0 .. length, or behind the last element for the token -" */
    private static void addToAnArray() {
        changed("[]", add("/0", "9"), 2, "[9]");
        changed("[]", add("/-", "9"), 2, "[9]");
        fails("[]", add("/1", "9"));
        changed("[1,2,3]", add("/0", "9"), 5, "[9,1,2,3]");
        changed("[1,2,3]", add("/1", "9"), 5, "[1,9,2,3]");
        changed("[1,2,3]", add("/2", "9"), 5, "[1,2,9,3]");
        changed("[1,2,3]", add("/3", "9"), 5, "[1,2,3,9]");
        changed("[1,2,3]", add("/-", "9"), 5, "[1,2,3,9]");
        fails("[1,2,3]", add("/4", "9"));
        fails("[1,2,3]", add("/-1", "9"));
        fails("[1,2,3]", add("/--", "9"));
        fails("[1,2,3]", add("/03", "9"));
        changed("[0,1,2,3,4,5,6,7,8,9]", add("/10", "10"), 12, "[0,1,2,3,4,5,6,7,8,9,10]");
        fails("[0,1,2,3,4,5,6,7,8,9]", add("/11", "10"));
        changed("{\"a\":[[]]}", add("/a/0/-", "9"), 4, "{\"a\":[[9]]}");
    }

    /** "the path without its last token must lead to an object or array" */
    private static void addToNothing() {
        fails("{\"a\":1}", add("/b/c", "9"));
        fails("{\"a\":1}", add("/a/c", "9"));
        fails("{\"a\":1}", add("//a", "9"));
        fails("[[]]", add("/1/0", "9"));
        fails("[[]]", add("/-/0", "9"));
        fails("[[]]", add("/0/0/0", "9"));
        fails("7", add("/0", "9"));
        fails("7", add("/", "9"));
        fails("\"\"", add("/-", "9"));
    }

    /** "the path must lead somewhere and not be empty; what is there goes" */
    private static void removals() {
        for (String document : new String[] {"7", "[]", "{}", "[1]", "{\"\":1}"}) {
            fails(document, remove(""));
        }
        changed("[1]", remove("/0"), 1, "[]");
        changed("[1,2,3]", remove("/0"), 3, "[2,3]");
        changed("[1,2,3]", remove("/1"), 3, "[1,3]");
        changed("[1,2,3]", remove("/2"), 3, "[1,2]");
        fails("[1,2,3]", remove("/3"));
        fails("[1,2,3]", remove("/-"));
        fails("[]", remove("/0"));
        changed("{\"a\":1}", remove("/a"), 1, "{}");
        changed("{\"\":1}", remove("/"), 1, "{}");
        changed("{\"a\":1,\"b\":2,\"c\":3}", remove("/a"), 3, "{\"b\":2,\"c\":3}");
        changed("{\"a\":1,\"b\":2,\"c\":3}", remove("/b"), 3, "{\"a\":1,\"c\":3}");
        changed("{\"a\":1,\"b\":2,\"c\":3}", remove("/c"), 3, "{\"a\":1,\"b\":2}");
        changed("{\"a\":1,\"b\":2}", remove("/a") + "," + add("/a", "3"), 3, "{\"b\":2,\"a\":3}");
        fails("{\"a\":1}", remove("/b"));
        changed("[[[[1,2]]]]", remove("/0/0/0/0"), 5, "[[[[2]]]]");
        changed(MOST, remove("/22"), 23, "[" + row("1", 22) + "]");
    }

    /** "the path must lead somewhere; the value takes the place" */
    private static void replacements() {
        changed("7", replace("", "[]"), 1, "[]");
        changed("[1,2]", replace("", "7"), 1, "7");
        changed("[1,2,3]", replace("/0", "9"), 4, "[9,2,3]");
        changed("[1,2,3]", replace("/1", "9"), 4, "[1,9,3]");
        changed("[1,2,3]", replace("/2", "9"), 4, "[1,2,9]");
        fails("[1,2,3]", replace("/3", "9"));
        fails("[1,2,3]", replace("/-", "9"));
        fails("[]", replace("/0", "9"));
        changed("{\"a\":1,\"b\":2}", replace("/a", "{}"), 3, "{\"a\":{},\"b\":2}");
        changed("{\"a\":1,\"b\":2}", replace("/b", "9"), 3, "{\"a\":1,\"b\":9}");
        fails("{\"a\":1}", replace("/b", "9"));
        fails("{}", replace("/", "9"));
        changed("[[1]]", replace("/0/0", "[2]"), 4, "[[[2]]]");
    }

    /** "from must lead somewhere; add of that value ... at path" */
    private static void copies() {
        changed("[1,2]", copy("/0", "/0"), 4, "[1,1,2]");
        changed("[1,2]", copy("/0", "/2"), 4, "[1,2,1]");
        changed("[1,2]", copy("/1", "/-"), 4, "[1,2,2]");
        fails("[1,2]", copy("/0", "/3"));
        fails("[1,2]", copy("/2", "/0"));
        fails("[1,2]", copy("/-", "/0"));
        fails("[1,2]", copy("/0", "/a"));
        fails("[]", copy("/0", "/0"));
        changed("[]", copy("", "/0"), 2, "[[]]");
        changed("{\"a\":1}", copy("/a", "/a"), 2, "{\"a\":1}");
        changed("{\"a\":1,\"b\":2}", copy("/b", "/a"), 3, "{\"a\":2,\"b\":2}");
        changed("{\"a\":1}", copy("/a", "/b"), 3, "{\"a\":1,\"b\":1}");
        changed("{\"a\":{\"b\":1}}", copy("/a/b", "/a"), 2, "{\"a\":1}");
        changed("{\"a\":{\"b\":1}}", copy("/a", "/a/b"), 4, "{\"a\":{\"b\":{\"b\":1}}}");
        changed("7", copy("", ""), 1, "7");
        fails("{\"a\":1}", copy("/b", "/a"));
        fails("{\"a\":1}", copy("/a", "/b/c"));
    }

    /** "that value, as it is then": what is done to one of the two later doesn't touch the other. */
    private static void copiesAsItIsThen() {
        changed("[[]]", copy("/0", "/1") + "," + add("/0/0", "5"), 4, "[[5],[]]");
        changed("[[]]", copy("/0", "/1") + "," + add("/1/0", "5"), 4, "[[],[5]]");
        changed("[[]]", add("/0/0", "5") + "," + copy("/0", "/1"), 5, "[[5],[5]]");
        changed("[1]", copy("", "/0") + "," + copy("", "/0"), 8, "[[[1],1],[1],1]");
    }

    /** "After each operation the document must be within size and depth": not only behind the last one. */
    private static void afterEachOperation() {
        tooBig(MOST, add("/0", "1") + "," + remove("/0"));
        tooBig(MOST, add("/0", "1") + "," + add("", "1"));
        tooBig(MOST, remove("/0") + "," + add("/0", "[1]"));
        tooBig("[[[[]]]]", add("/0/0/0/0", "[]") + "," + remove("/0"));
        tooBig("[[[]]]", copy("", "/-") + "," + copy("", "/-"));
        tooBig(MOST, add("/0", "1") + "," + remove("/99"));
        refused(MOST, "[" + remove("/99") + "," + add("/0", "1") + "]", -10);
    }

    /** It may be as large as it was before, whatever an operation takes away and puts there. */
    private static void withinAfterwards() {
        changed(MOST, remove("/0") + "," + add("/-", "2"), 24, "[" + row("1", 22) + ",2]");
        changed(MOST, replace("/0", "[]"), 24, "[[]," + row("1", 22) + "]");
        changed(MOST, add("", "[1,2]"), 3, "[1,2]");
        changed(MOST, copy("/0", ""), 1, "1");
        changed("[[[[]]]]", copy("/0", "") + "," + copy("", "/-"), 6, "[[[]],[[[]]]]");
        changed("[[[[1]]]]", replace("/0/0", "[[2]]"), 5, "[[[[2]]]]");
    }
}
