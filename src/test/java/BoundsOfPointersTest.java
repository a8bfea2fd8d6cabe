/** The bounds that the section POINTERS names: which strings are pointers, and where they lead. */
public final class BoundsOfPointersTest extends Cases {
    private static final String TEN = "[0,1,2,3,4,5,6,7,8,9,10]";

    public static void main(String[] args) {
        theEmptyPointer();
        emptyTokens();
        stringsThatAreNone();
        escapes();
        otherTildes();
        numbersOfElements();
        tokensThatAreNoNumbers();
        largestNumbers();
        namesOfMembers();
        longestPointers();
        fromOtherValues();
        Trial.end();
    }

    /** Operations tell where a pointer leads: a copy of what is there becomes the document. */
    private static void leads(String document, String pointer, int size, String value) {
        changed(document, copy(pointer, ""), size, value);
    }

    /** The pointer leads nowhere, or is none: each operation that needs a place there fails. */
    private static void nowhere(String document, String pointer) {
        fails(document, copy(pointer, ""));
        fails(document, remove(pointer));
        fails(document, replace(pointer, "1"));
    }

    /** The string is no pointer: even add fails. */
    private static void none(String document, String pointer) {
        nowhere(document, pointer);
        fails(document, add(pointer, "1"));
        fails(document, copy("", pointer));
    }

    /** "empty for the whole document" */
    private static void theEmptyPointer() {
        leads("7", "", 1, "7");
        leads("{\"\":1}", "", 2, "{\"\":1}");
        leads(TEN, "", 12, TEN);
    }

    /** "for each step / and a token": the token may be empty. */
    private static void emptyTokens() {
        leads("{\"\":1,\"a\":2}", "/", 1, "1");
        leads("{\"\":{\"\":{\"\":3}}}", "//", 2, "{\"\":3}");
        leads("{\"\":{\"\":{\"\":3}}}", "///", 1, "3");
        leads("{\"a\":{\"\":2}}", "/a/", 1, "2");
        nowhere("{\"a\":1}", "/");
        nowhere("{\"\":1}", "//");
        nowhere("[1]", "/");
        nowhere("{\"a\":1}", "/a/");
        nowhere("{\"a\":1}", "//a");
    }

    /** "one that doesn't begin with /" */
    private static void stringsThatAreNone() {
        String document = "{\"a\":1,\"\":2,\"0\":3,\" \":4,\"~0\":5}";
        for (String none : new String[] {"a", " ", "0", " /a", "a/", "a/a", "~0", "~1a", "-", ".", "\\\\/a", "\\\"/a"}) {
            none(document, none);
        }
        none("[1]", "0");
        none("[1]", "-");
        leads(document, "/a", 1, "1");
    }

    /** "~0 stands for ~ and ~1 for /" */
    private static void escapes() {
        leads("{\"~\":1,\"/\":2}", "/~0", 1, "1");
        leads("{\"~\":1,\"/\":2}", "/~1", 1, "2");
        leads("{\"~1\":1,\"/\":2}", "/~01", 1, "1");
        leads("{\"~0\":1,\"~\":2}", "/~00", 1, "1");
        leads("{\"/0\":1}", "/~10", 1, "1");
        leads("{\"~/~\":1}", "/~0~1~0", 1, "1");
        leads("{\"a~b/c\":1}", "/a~0b~1c", 1, "1");
        leads("{\"/\":{\"~\":1}}", "/~1/~0", 1, "1");
        leads("{\"~\":{\"/\":1}}", "/~0/~1", 1, "1");
        changed("{}", add("/~0~1", "1"), 2, "{\"~/\":1}");
        changed("{}", add("/~01", "1"), 2, "{\"~1\":1}");
        nowhere("{\"~0\":1}", "/~0");
        nowhere("{\"~1\":1}", "/~1");
        nowhere("[1]", "/~0");
    }

    /** "a ~ with anything else, or nothing, behind it" */
    private static void otherTildes() {
        String document = "{\"~\":1,\"~2\":2,\"a\":3,\"a~\":4}";
        String[] strings = {"/~", "/a~", "/~2", "/~/", "/~~", "/~~0", "/~0~", "/a/~", "/~a", "/~-", "/~ ", "/~/0", "/~\u00ff"};
        for (String none : strings) {
            none(document, none);
        }
    }

    /** "to the element of that number": 0 up to the last one. */
    private static void numbersOfElements() {
        leads(TEN, "/0", 1, "0");
        leads(TEN, "/9", 1, "9");
        leads(TEN, "/10", 1, "10");
        nowhere(TEN, "/11");
        nowhere(TEN, "/12");
        nowhere("[]", "/0");
        leads("[[1,[2]],3]", "/0/1/0", 1, "2");
        nowhere("[[1,[2]],3]", "/0/2");
        nowhere("[[1,[2]],3]", "/1/0");
        nowhere("[[1,[2]],3]", "/2/0");
    }

    /** "(digits, no 0 in front of others)" */
    private static void tokensThatAreNoNumbers() {
        String[] tokens = {"00", "01", "000", "010", "-", "-0", "-1", "+1", "1 ", " 1", "1a", "a", "0x1", "1.", "1e0", "", "/", ":"};
        for (String token : tokens) {
            nowhere(TEN, "/" + token);
        }
        for (String token : new String[] {"00", "01", "-1", "+1", "1a", "", "--", "-0", "1:", "1/"}) {
            fails("[1,2]", add("/" + token, "3"));
        }
    }

    /** A number may have as many digits as the string has room for. */
    private static void largestNumbers() {
        for (String number : new String[] {"99", "256", "65536", "99999", "16777216", "268435456", "999999999"}) {
            nowhere("[1]", "/" + number);
            fails("[1]", add("/" + number, "3"));
        }
    }

    /** "from an object to its member of that name": a name of digits is a name. */
    private static void namesOfMembers() {
        leads("{\"0\":1,\"00\":2,\"-\":3}", "/0", 1, "1");
        leads("{\"0\":1,\"00\":2,\"-\":3}", "/00", 1, "2");
        leads("{\"0\":1,\"00\":2,\"-\":3}", "/-", 1, "3");
        nowhere("{\"b\":1}", "/0");
        nowhere("{\"b\":1}", "/B");
        nowhere("{\"b\":1}", "/bb");
        nowhere("{\"bb\":1}", "/b");
    }

    /** A string has ten characters at most, so a name of nine is the longest that a pointer tells. */
    private static void longestPointers() {
        leads("{\"abcdefghi\":1,\"abcdefghij\":2}", "/abcdefghi", 1, "1");
        leads("{\"\":{\"a\":[[9]]}}", "//a/0/0", 1, "9");
        leads("[[[[7]]]]", "/0/0/0/0", 1, "7");
        nowhere("[[[[7]]]]", "/0/0/0/0/0");
        nowhere("[[[[]]]]", "/0/0/0/0");
        refused("{}", "[" + remove("/abcdefghij") + "]", -134);
    }

    /** "otherwise it leads nowhere": other values have no parts. */
    private static void fromOtherValues() {
        for (String value : new String[] {"null", "true", "false", "0", "\"0\"", "\"\"", "\"a\""}) {
            for (String token : new String[] {"0", "", "a", "-"}) {
                nowhere(value, "/" + token);
                nowhere("[" + value + "]", "/0/" + token);
                fails(value, add("/" + token, "1"));
                fails("[" + value + "]", add("/0/" + token, "1"));
            }
        }
    }
}
