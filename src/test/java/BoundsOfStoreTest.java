/** The bounds that the section STORE names: ids, halves, pages, metas, readers, and when it is full. */
public final class BoundsOfStoreTest extends Cases {
    /** Two pages are free behind these, one behind a put more, and each change of document 4 needs two. */
    private static final String TWO_FREE = "p0 p4 o p5 p0 o r4 p0";

    public static void main(String[] args) {
        ids();
        halves();
        aHalfOfFour();
        numbersOfPages();
        metasAtFirst();
        metasTakeTurns();
        pagesAreUsedAgain();
        readersHoldARootOrNone();
        freePages();
        lowestFreePages();
        noLeafWithoutDocuments();
        noRootWithoutDocuments();
        fullForTwoPages();
        fullForOnePage();
        neverFullForNone();
        fullBeforeAnythingIsWritten();
        roomAgain();
        neverOverwritten();
        Trial.end();
    }

    private static Trial after(String steps) {
        return new Trial("behind " + steps).steps(steps);
    }

    /** "Ids are 0 .. 7." */
    private static void ids() {
        Trial t = new Trial("ids");
        for (int id = 0; id < 8; id++) {
            t.put("" + id, id, 1);
            t.due("size(1)", t.x.size(1), id + 1);
        }
        for (int id = 0; id < 8; id++) {
            t.prints(-1, id, "" + id);
            t.patch("[]", id, 1);
        }
        for (int id : new int[] {-1, 8, 9, 15, 16, Integer.MIN_VALUE, Integer.MAX_VALUE}) {
            t.type("1");
            t.due("put(" + id + ")", t.x.put(id), BAD);
            t.due("patch(" + id + ")", t.x.patch(id), BAD);
            t.due("remove(" + id + ")", t.x.remove(id), BAD);
            t.due("print(-1, " + id + ")", t.x.print(-1, id), BAD);
        }
        t.due("size(1)", t.x.size(1), 8);
        for (int id = 0; id < 8; id++) {
            t.due("remove(" + id + ")", t.x.remove(id), 7 - id);
        }
    }

    /** "a LEAF, with documents of the ids 0 .. 3 or 4 .. 7": the leaf of another half stays, one of the same half goes. */
    private static void halves() {
        for (int a = 0; a < 8; a++) {
            for (int b = 0; b < 8; b++) {
                Trial t = after("p" + a + " p" + b + " p" + b);
                t.pages(a / 4 == b / 4 ? "002121000000" : "202121000000");
                t.sizes(0, a == b ? 1 : 2, 0, 9, 1, 3, 0);
            }
        }
    }

    private static void aHalfOfFour() {
        Trial t = new Trial("a half of four documents");
        for (int id : new int[] {0, 1, 2, 3}) {
            t.put("" + id, id, 1);
        }
        t.pages("210021000000");
        t.put("9", 3, 1);
        for (int id : new int[] {0, 1, 2}) {
            t.prints(-1, id, "" + id);
        }
        t.prints(-1, 3, "9");
        for (int id : new int[] {4, 5, 6, 7}) {
            t.put("" + id, id, 1);
        }
        t.due("remove(4)", t.x.remove(4), 7);
        t.prints(-1, 0, "0");
        t.prints(-1, 7, "7");
        t.due("print(-1, 4)", t.x.print(-1, 4), BAD);
    }

    /** "PAGES 0 .. 11" */
    private static void numbersOfPages() {
        Trial t = after("p0 p4 o p5 p0 o r4 o p4 p0");
        t.pages("222122121121");
        for (int n : new int[] {-1, 12, 13, Integer.MIN_VALUE, Integer.MAX_VALUE}) {
            t.due("page(" + n + ")", t.x.page(n), BAD);
        }
    }

    /** "at first both have number 0 and no root ... meta 0 when they are alike" */
    private static void metasAtFirst() {
        Trial t = new Trial("metas at first");
        t.sizes(0, 0, 0, 0, 0, 0, 0);
        t.put("x", 0, -100);
        t.sizes(0, 0, 0, 0, 0, 0, 0);
        t.put("1", 0, 1);
        t.sizes(0, 1, 0, 3, 1, 1, 0);
    }

    /** "the meta that isn't current gets ... the current one's number and 1" */
    private static void metasTakeTurns() {
        Trial t = new Trial("metas take turns");
        for (int n = 1; n <= 40; n++) {
            t.put("" + n, n % 8, 1);
            t.sizes(0, Math.min(n, 8), 0, 3 * n, n % 2, n);
        }
    }

    /** The free pages of the lowest numbers come round again. */
    private static void pagesAreUsedAgain() {
        Trial t = new Trial("pages are used again");
        String[] round = {"210000000000", "212100000000", "002121000000", "210021000000"};
        for (int n = 0; n < 4; n++) {
            t.put("1", 0, 1);
            t.pages(round[n]);
        }
        for (int n = 0; n < 4; n++) {
            t.put("1", 0, 1);
            t.pages("212100000000");
            t.put("1", 0, 1);
            t.pages("002121000000");
            t.put("1", 0, 1);
            t.pages("210021000000");
        }
    }

    /** "READERS 0 .. 2 each hold, when open, a root or none." */
    private static void readersHoldARootOrNone() {
        Trial t = new Trial("readers");
        t.due("open()", t.x.open(), 0);
        t.steps("p0");
        t.due("open()", t.x.open(), 1);
        t.steps("r0");
        t.due("open()", t.x.open(), 2);
        t.due("open()", t.x.open(), BAD);
        t.steps("p0 p4");
        t.due("print(0, 0)", t.x.print(0, 0), BAD);
        t.prints(1, 0, "1");
        t.due("print(1, 4)", t.x.print(1, 4), BAD);
        t.due("print(2, 0)", t.x.print(2, 0), BAD);
        t.prints(-1, 4, "1");
        t.query("$", 0, -1, 0);
        t.query("$", 1, -1, 1);
        t.query("$", 2, -1, 0);
    }

    /** "A page is FREE if no meta's and no open reader's root is it or has it as leaf." */
    private static void freePages() {
        Trial t = after("p0 o p0 p0 p0");
        t.pages("210021210000");
        t.steps("o c0");
        t.pages("000021210000");
        t.steps("p0 p0");
        t.pages("212100210000");
        t.steps("c1");
        t.pages("212100000000");
        t.steps("r0");
        t.pages("002100000000");
        t.steps("p0");
        t.pages("210000000000");
        t.steps("r0 p0");
        t.pages("002100000000");
    }

    /** "into the free page of the lowest number ... a root into the next free one" */
    private static void lowestFreePages() {
        Trial t = after("p0 p4 p0");
        t.pages("202121000000");
        t.steps("o p4");
        t.pages("022021100000");
        t.steps("p4");
        t.pages("222121100000");
    }

    /** "if its half has documents then": the root is written alone. */
    private static void noLeafWithoutDocuments() {
        Trial t = after("p0 p4");
        t.due("remove(0)", t.x.remove(0), 1);
        t.sizes(0, 1, 0, 8, 1, 3, 0);
        t.pages("202110000000");
        Trial two = after("p4 p5 p0");
        two.due("remove(4)", two.x.remove(4), 2);
        two.sizes(0, 2, 0, 12, 0, 4, 0);
        two.due("remove(0)", two.x.remove(0), 1);
        two.sizes(0, 1, 0, 14, 1, 5, 0);
    }

    /** "if there are documents at all": the meta is written alone, and gets no root. */
    private static void noRootWithoutDocuments() {
        Trial t = after("p0");
        t.due("remove(0)", t.x.remove(0), 0);
        t.sizes(0, 0, 0, 4, 0, 2, 0);
        t.pages("210000000000");
        t.due("remove(0) again", t.x.remove(0), BAD);
        t.steps("p7 r7");
        t.pages("002100000000");
        t.sizes(0, 0, 0, 8, 0, 4, 0);
    }

    /** "If there are too few free pages, it is FULL": two are enough for a leaf and a root, one is not. */
    private static void fullForTwoPages() {
        for (int id = 0; id < 8; id++) {
            Trial two = after(TWO_FREE);
            two.pages("222122121100");
            two.put("[5]", id, 2);
            two.prints(-1, id, "[5]");
            Trial one = after(TWO_FREE + " p0");
            one.pages("222122120121");
            one.put("[5]", id, FULL);
            one.sizes(0, 2, 2, 21, 1, 7, 0);
        }
        Trial two = after(TWO_FREE);
        two.patch("[]", 0, 1);
        two.pages("222122120121");
        two.patch("[]", 0, FULL);
        Trial one = after(TWO_FREE + " p4");
        one.pages("222122120121");
        one.due("remove(4), whose half keeps a document", one.x.remove(4), FULL);
        Trial none = after("p0 p4 o p5 p0 o r4 o p4 p0");
        none.put("2", 0, FULL);
        none.patch("[]", 4, FULL);
        none.due("remove(4)", none.x.remove(4), FULL);
    }

    /** One page is enough for a root alone. */
    private static void fullForOnePage() {
        Trial one = after(TWO_FREE + " p0");
        one.due("remove(0), whose half keeps none", one.x.remove(0), 1);
        one.sizes(0, 1, 2, 23, 0, 8, 0);
        Trial none = after("p0 p4 o p5 p0 o r4 o p4 p0");
        none.pages("222122121121");
        none.due("remove(0), whose half keeps none", none.x.remove(0), FULL);
        none.sizes(0, 3, 3, 21, 1, 7, 0);
    }

    /** The last document goes without any page. */
    private static void neverFullForNone() {
        Trial t = after("p0 p4 o p5 p0 o r0 p4 o r4 p5");
        t.pages("222122121211");
        t.due("remove(5)", t.x.remove(5), 0);
        t.sizes(0, 0, 3, 24, 1, 9, 0);
    }

    /** "it is FULL before anything is written": no block, no meta, and the fuse doesn't burn. */
    private static void fullBeforeAnythingIsWritten() {
        Trial t = after(TWO_FREE + " p4");
        t.x.fuse(2);
        for (int n = 0; n < 3; n++) {
            t.put("5", 4, FULL);
            t.patch("[]", 4, FULL);
            t.due("remove(4)", t.x.remove(4), FULL);
        }
        t.sizes(0, 3, 2, 21, 1, 7, 0);
        t.pages("222122120121");
        t.prints(-1, 4, "1");
        t.due("remove(0), of two blocks", t.x.remove(0), DOWN);
        t.sizes(0, 2, 0, 23, 0, 8, 1);
    }

    /** What a closed reader alone had is free. */
    private static void roomAgain() {
        Trial t = after(TWO_FREE + " p4");
        t.put("5", 4, FULL);
        t.due("close(1)", t.x.close(1), true);
        t.put("5", 4, 1);
        t.prints(-1, 4, "5");
        t.prints(0, 4, "1");
        t.due("print(0, 5)", t.x.print(0, 5), BAD);
    }

    /** "pages that are never overwritten while somebody can reach them" */
    private static void neverOverwritten() {
        Trial t = new Trial("never overwritten");
        t.put("[\"old\"]", 0, 2);
        t.put("{\"old\":0}", 6, 2);
        t.x.open();
        t.put("[\"new\"]", 0, 2);
        t.x.open();
        t.query("$..*", -1, -1, 2);
        for (int n = 0; n < 60; n++) {
            t.put("" + n % 10, n % 8, 1);
        }
        t.results("0:\"new\"", "6:0");
        t.prints(0, 0, "[\"old\"]");
        t.prints(0, 6, "{\"old\":0}");
        t.prints(1, 0, "[\"new\"]");
        t.prints(1, 6, "{\"old\":0}");
        t.due("print(0, 1)", t.x.print(0, 1), BAD);
    }
}
