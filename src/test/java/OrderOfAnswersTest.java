/** Which answer a call gives when more than one would be due: DOWN, BAD, -100 - place, and then the rest in its order. */
public final class OrderOfAnswersTest extends Cases {
    private static final String MOST = "[" + row("1", 23) + "]";

    public static void main(String[] args) {
        downFirst();
        badBeforeFaults();
        badBeforeFull();
        faultsBeforeFull();
        faultsOfOperations();
        malformedBeforeFailures();
        failuresBeforeFull();
        tooBigBeforeFull();
        faultsBeforeTooMany();
        Trial.end();
    }

    /** One page is free, so that a change of document 0 or 5 is FULL; document 0 is this text. */
    private static Trial scarce(String text, int size) {
        Trial t = new Trial("one free page");
        t.fill(text, size);
        return t;
    }

    /** "The machine has stopped (asked first)." */
    private static void downFirst() {
        Trial t = new Trial("stopped").steps("p0");
        t.x.fuse(1);
        t.put("1", 0, DOWN);
        for (int n : new int[] {-2, -1, 0, 1, 8, Integer.MIN_VALUE, Integer.MAX_VALUE}) {
            t.due("put(" + n + ")", t.x.put(n), DOWN);
            t.due("patch(" + n + ")", t.x.patch(n), DOWN);
            t.due("remove(" + n + ")", t.x.remove(n), DOWN);
            t.due("query(" + n + ", 0)", t.x.query(n, 0), DOWN);
            t.due("query(-1, " + n + ")", t.x.query(-1, n), DOWN);
            t.due("print(" + n + ", 0)", t.x.print(n, 0), DOWN);
            t.due("print(-1, " + n + ")", t.x.print(-1, n), DOWN);
        }
    }

    /** "There is no such document, reader, place or the like (asked next)." */
    private static void badBeforeFaults() {
        Trial t = new Trial("BAD before faults").steps("p0");
        t.type("x");
        t.due("put(8)", t.x.put(8), BAD);
        t.due("put(-1)", t.x.put(-1), BAD);
        t.due("patch(1)", t.x.patch(1), BAD);
        t.due("patch(8)", t.x.patch(8), BAD);
        t.due("query(0, 0)", t.x.query(0, 0), BAD);
        t.due("query(-1, 1)", t.x.query(-1, 1), BAD);
        t.due("query(-1, 0)", t.x.query(-1, 0), -100);
        t.type("[1]");
        t.due("patch(1) of no operations", t.x.patch(1), BAD);
        t.due("patch(0) of no operations", t.x.patch(0), MALFORMED);
    }

    private static void badBeforeFull() {
        Trial t = scarce("1", 1);
        t.type("7");
        t.due("put(8)", t.x.put(8), BAD);
        t.due("patch(1)", t.x.patch(1), BAD);
        t.due("remove(1)", t.x.remove(1), BAD);
        t.due("remove(5)", t.x.remove(5), FULL);
        t.due("put(1)", t.x.put(1), FULL);
    }

    /** "-100 - place when it is at fault; then FULL" */
    private static void faultsBeforeFull() {
        Trial t = scarce("1", 1);
        t.put("[7", 0, -102);
        t.patch("[7", 0, -102);
        t.put("[7]", 0, FULL);
        t.sizes(0, 3, 3, 18, 0, 6, 0);
    }

    /** "-100 - place; then MALFORMED" */
    private static void faultsOfOperations() {
        refused("[1]", "[1", -102);
        refused("[1]", "{\"op\":1,", -108);
        refused("[1]", "[" + remove("/9") + " 1]", -129);
        refused("[1]", "1 1", -102);
    }

    /** "then MALFORMED; -10 - i when operation i (from 0) fails" */
    private static void malformedBeforeFailures() {
        malformed("[" + remove("/9") + ",1]");
        malformed("[" + remove("x") + ",{}]");
        refused(MOST, "[" + add("/0", "1") + ",1]", MALFORMED);
        Trial t = scarce("1", 1);
        t.patch("[1]", 0, MALFORMED);
        t.patch("{}", 0, MALFORMED);
    }

    /** "-10 - i when operation i (from 0) fails; TOO_BIG; FULL" */
    private static void failuresBeforeFull() {
        Trial t = scarce("[1]", 2);
        t.patch("[" + remove("/1") + "]", 0, -10);
        t.patch("[" + remove("/0") + "," + remove("/0") + "]", 0, -11);
        t.patch("[" + remove("/0") + "]", 0, FULL);
        t.prints(-1, 0, "[1]");
        t.sizes(0, 3, 3, 18, 0, 6, 0);
    }

    private static void tooBigBeforeFull() {
        Trial t = scarce("[[[[]]]]", 4);
        t.patch("[" + add("/0/0/0/0", "[]") + "]", 0, TOO_BIG);
        t.patch("[" + add("/0/0/0/0", "1") + "]", 0, FULL);
        t.prints(-1, 0, "[[[[]]]]");
        t.sizes(0, 3, 3, 18, 0, 6, 0);
    }

    /** "-100 - place; TOO_MANY" */
    private static void faultsBeforeTooMany() {
        Trial t = new Trial("faults before TOO_MANY");
        t.put("[" + row("1", 20) + "]", 0, 21);
        t.query("$[*,*]", -1, 0, TOO_MANY);
        t.query("$[*,*]x", -1, 0, -106);
        t.query("$[*,*].", -1, 0, -107);
    }
}
