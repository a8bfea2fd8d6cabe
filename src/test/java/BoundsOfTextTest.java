/** The bounds that the section TEXT names, and where a text is at fault. */
public final class BoundsOfTextTest extends Cases {
    public static void main(String[] args) {
        atMost80Characters();
        the81stIsRefused();
        anyCharacterIsTyped();
        placesCountFrom0();
        atItsLength();
        theFirstFault();
        emptyText();
        placesInOperations();
        placesInQueries();
        emptiedAgain();
        Trial.end();
    }

    /** "a row of at most 80 characters": values of 80 characters, the last of them a part of the value. */
    private static void atMost80Characters() {
        taken(" ".repeat(79) + "7", 1, "7");
        taken("7" + " ".repeat(79), 1, "7");
        taken("[" + " ".repeat(78) + "]", 1, "[]");
        String long80 = "[\"abcdefghij\",\"abcdefghij\",\"abcdefghij\",\"abcdefghij\",\"abcdefghij\",\"abcdefghijk\"]";
        taken(long80.replace("k", "").replace("]", " ]"), 7, long80.replace("k", ""));
    }

    /** "BAD when it has 80": the text stays as it was. */
    private static void the81stIsRefused() {
        Trial t = new Trial("the 81st character");
        for (int n = 1; n <= 80; n++) {
            t.due("type " + n, t.x.type(n == 1 ? '[' : n == 80 ? ']' : ' '), n);
        }
        for (int n = 0; n < 3; n++) {
            t.due("type one more", t.x.type('x'), BAD);
            t.sizes(80, 0, 0, 0, 0, 0, 0);
        }
        t.due("put(0)", t.x.put(0), 1);
        t.prints(-1, 0, "[]");
        t.due("type again", t.x.type('5'), 1);
        t.due("put(0)", t.x.put(0), 1);
        t.prints(-1, 0, "5");
    }

    /** Every char can be typed; what it may be is asked later. */
    private static void anyCharacterIsTyped() {
        Trial t = new Trial("any character");
        char[] odd = {0, 1, 9, 31, 32, 127, 128, 255, 256, 0x7fff, 0x8000, 0xd800, 0xffff};
        for (int n = 0; n < odd.length; n++) {
            t.due("type(" + (int) odd[n] + ")", t.x.type(odd[n]), n + 1);
        }
        for (char c : odd) {
            if (c != 9 && c != 32) {
                fault("" + c, 0);
                fault("1" + c, 1);
                queryFault("" + c, 0);
                queryFault("$" + c, 1);
            }
        }
    }

    /** "places in it count from 0" */
    private static void placesCountFrom0() {
        fault("x", 0);
        fault(" x", 1);
        fault(" ".repeat(78) + "x", 78);
        fault(" ".repeat(79) + "x", 79);
        fault("x" + " ".repeat(79), 0);
    }

    /** "or at its length if more must follow" */
    private static void atItsLength() {
        fault("[", 1);
        fault("[" + " ".repeat(78), 79);
        fault("[" + " ".repeat(79), 80);
        fault(" ".repeat(80), 80);
        fault(" ".repeat(79) + "-", 80);
        fault(" ".repeat(77) + "nul", 80);
        fault(" ".repeat(79) + "\"", 80);
        fault(" ".repeat(78) + "\"\\", 80);
        fault(" ".repeat(75) + "{\"a\":", 80);
    }

    /** "at the place of the first character that can't stand there, gone through from the left" */
    private static void theFirstFault() {
        fault("[x,y]", 1);
        fault("[1,01,1000000,\"\t\",[[[[[", 4);
        fault("[1,1000000,\"\t\",[[[[[", 9);
        fault("[1,\"\t\",[[[[[", 4);
        fault("[1,[[[[[,x", 6);
        fault("{\"a\":x,\"a\":1}", 5);
        fault("{\"a\":1,\"a\":x}", 7);
        fault("[[[[[01", 4);
        fault("]x", 0);
    }

    private static void emptyText() {
        fault("", 0);
        refused("[1]", "", -100);
        queryFault("", 0);
        Trial t = new Trial("empty text of a new object");
        t.due("put(0)", t.x.put(0), -100);
        t.due("query(-1, -1)", t.x.query(-1, -1), -100);
        t.sizes(0, 0, 0, 0, 0, 0, 0);
    }

    private static void placesInOperations() {
        refused("[1]", "x", -100);
        refused("[1]", "[", -101);
        refused("[1]", " ".repeat(79) + "x", -179);
        refused("[1]", "[" + " ".repeat(79), -180);
        refused("[1]", "[" + remove("/0"), -128);
        refused("[1]", "[" + remove("/0") + "]]", -129);
        Trial t = new Trial("a list of 80 characters");
        t.put("[1]", 0, 2);
        t.patch("[" + remove("/0") + " ".repeat(51) + "]", 0, 1);
        t.prints(-1, 0, "[]");
    }

    private static void placesInQueries() {
        String names = row("'abcdefghij'", 6);
        queryFault("$[" + names + ",", 80);
        queryFault("$[" + names + "x", 79);
        queryFault("$[" + names, 79);
        found("{\"abcdefghij\":5}", "$[" + names + "]", "5", "5", "5", "5", "5", "5");
    }

    /** "put(), patch() and query() empty the text": also when it is taken, and nothing of it is left. */
    private static void emptiedAgain() {
        Trial t = new Trial("emptied again");
        t.put("[1,2,3]", 0, 4);
        t.sizes(0);
        t.put("4", 1, 1);
        t.prints(-1, 1, "4");
        t.patch("[]  ", 1, 1);
        t.sizes(0);
        t.patch("[", 1, -101);
        t.sizes(0);
        t.query("$", -1, -1, 2);
        t.sizes(0);
        t.query("", -1, -1, -100);
        t.query("$.a.b.c", -1, 0, 0);
        t.query("$", -1, 0, 1);
        t.results("0:[1,2,3]");
    }
}
