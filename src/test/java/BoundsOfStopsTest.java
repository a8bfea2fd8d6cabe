/** The bounds of the fuse, and what a stop behind each block leaves. */
public final class BoundsOfStopsTest extends Cases {
    public static void main(String[] args) {
        lengths();
        behindEachBlockOfPut();
        behindEachBlockOfPatch();
        behindEachBlockOfRemove();
        behindARootAlone();
        behindAMetaAlone();
        inWhateverCalls();
        refusedCallsDoNotBurnIt();
        insteadOfOneThatWasSet();
        theFuseIsGone();
        notSetWhenStopped();
        theTextIsEmptied();
        readersAreClosed();
        callsThatDoNotTellDown();
        callsThatTellDown();
        stopsOneAfterTheOther();
        Trial.end();
    }

    /** "False when ... k is not 1 .. 20": the last that is taken burns 20 blocks. */
    private static void lengths() {
        for (int k = 1; k <= 20; k++) {
            Trial t = new Trial("fuse of " + k);
            t.due("fuse(" + k + ")", t.x.fuse(k), true);
            burn(t, 0, k);
            t.due("number of the last state that was whole", t.x.size(5), k / 3);
        }
        Trial t = new Trial("wrong fuse");
        for (int k : new int[] {0, 21, -1, 22, 100, Integer.MIN_VALUE, Integer.MAX_VALUE}) {
            t.due("fuse(" + k + ")", t.x.fuse(k), false);
        }
        t.steps("p0 p0 p0 p0 p0 p0 p0 p0");
        t.due("size(6)", t.x.size(6), 0);
    }

    /** "the machine STOPS right behind the k-th block ...; with the meta it has happened" */
    private static void behindEachBlockOfPut() {
        for (int k = 1; k <= 3; k++) {
            Trial t = new Trial("put stopped behind block " + k).steps("p0 p4");
            t.x.fuse(k);
            t.put("[2]", 0, DOWN);
            t.sizes(0, 2, 0, 6 + k, k == 3 ? 1 : 0, k == 3 ? 3 : 2, 1);
            t.pages(k == 3 ? "202121000000" : "212100000000");
            t.due("restart()", t.x.restart(), true);
            t.prints(-1, 0, k == 3 ? "[2]" : "1");
            t.prints(-1, 4, "1");
            t.put("3", 4, 1);
            t.pages(k == 3 ? "022021100000" : "202121000000");
        }
    }

    private static void behindEachBlockOfPatch() {
        for (int k = 1; k <= 3; k++) {
            Trial t = new Trial("patch stopped behind block " + k).steps("p0 p4");
            t.x.fuse(k);
            t.patch("[" + add("", "[2]") + "]", 4, DOWN);
            t.sizes(0, 2, 0, 6 + k, k == 3 ? 1 : 0, k == 3 ? 3 : 2, 1);
            t.x.restart();
            t.prints(-1, 0, "1");
            t.prints(-1, 4, k == 3 ? "[2]" : "1");
        }
    }

    private static void behindEachBlockOfRemove() {
        for (int k = 1; k <= 3; k++) {
            Trial t = new Trial("remove stopped behind block " + k).steps("p0 p1");
            t.x.fuse(k);
            t.due("remove(1)", t.x.remove(1), DOWN);
            t.sizes(0, k == 3 ? 1 : 2, 0, 6 + k, k == 3 ? 1 : 0, k == 3 ? 3 : 2, 1);
            t.x.restart();
            t.prints(-1, 0, "1");
            t.due("print(-1, 1)", t.x.print(-1, 1), k == 3 ? BAD : 1);
        }
    }

    private static void behindARootAlone() {
        for (int k = 1; k <= 2; k++) {
            Trial t = new Trial("remove of a half stopped behind block " + k).steps("p0 p4");
            t.x.fuse(k);
            t.due("remove(0)", t.x.remove(0), DOWN);
            t.sizes(0, k == 2 ? 1 : 2, 0, 6 + k, k == 2 ? 1 : 0, k == 2 ? 3 : 2, 1);
            t.x.restart();
            t.due("print(-1, 0)", t.x.print(-1, 0), k == 2 ? BAD : 1);
            t.prints(-1, 4, "1");
        }
    }

    private static void behindAMetaAlone() {
        Trial t = new Trial("remove of the last document").steps("p0");
        t.x.fuse(1);
        t.due("remove(0)", t.x.remove(0), DOWN);
        t.sizes(0, 0, 0, 4, 0, 2, 1);
        t.x.restart();
        t.due("print(-1, 0)", t.x.print(-1, 0), BAD);
        t.due("remove(0)", t.x.remove(0), BAD);
    }

    /** "the k-th block (page or meta) written since, in whatever calls" */
    private static void inWhateverCalls() {
        Trial t = new Trial("in whatever calls").steps("p0 p4");
        t.x.fuse(11);
        t.patch("[]", 0, 1);
        t.due("remove(0), of two blocks", t.x.remove(0), 1);
        t.due("remove(4), of one block", t.x.remove(4), 0);
        t.put("[1]", 7, 2);
        t.due("open()", t.x.open(), 0);
        t.query("$", -1, 7, 1);
        t.prints(-1, 7, "[1]");
        t.due("size(6)", t.x.size(6), 0);
        t.put("[2]", 7, DOWN);
        t.sizes(0, 1, 0, 17, 0, 6, 1);
        t.x.restart();
        t.prints(-1, 7, "[1]");
    }

    private static void refusedCallsDoNotBurnIt() {
        Trial t = new Trial("refused calls don't burn it").steps("p0");
        t.x.fuse(1);
        t.put("x", 0, -100);
        t.put("", 3, -100);
        t.patch("[1]", 0, MALFORMED);
        t.patch("[" + remove("/0") + "]", 0, -10);
        t.query("x", -1, 0, -100);
        t.due("remove(1)", t.x.remove(1), BAD);
        t.due("put(8)", t.x.put(8), BAD);
        t.due("restart()", t.x.restart(), false);
        t.sizes(0, 1, 0, 3, 1, 1, 0);
        t.put("5", 0, DOWN);
        t.sizes(0, 1, 0, 4, 1, 1, 1);
    }

    /** "Sets the fuse to k, instead of one that was set": longer, shorter, or the same anew. */
    private static void insteadOfOneThatWasSet() {
        int[][] pairs = {{1, 20}, {20, 1}, {3, 3}, {4, 2}, {2, 4}};
        for (int[] pair : pairs) {
            Trial t = new Trial("fuse(" + pair[1] + ") behind fuse(" + pair[0] + ")");
            t.x.fuse(pair[0]);
            t.x.fuse(pair[1]);
            burn(t, 0, pair[1]);
        }
        Trial t = new Trial("fuse half burnt");
        t.x.fuse(4);
        t.steps("p0");
        t.x.fuse(4);
        burn(t, 3, 4);
    }

    /** Puts until the machine stops, which must be k blocks behind those that were written. */
    private static void burn(Trial t, int blocks, int k) {
        int answer = 1;
        for (int n = 0; n < 8 && answer == 1; n++) {
            t.type("1");
            answer = t.x.put(0);
        }
        t.due("last put", answer, DOWN);
        t.due("blocks", t.x.size(3), blocks + k);
    }

    /** "and the fuse is gone" */
    private static void theFuseIsGone() {
        for (int k : new int[] {1, 2, 3, 20}) {
            Trial t = new Trial("behind a fuse of " + k);
            t.x.fuse(k);
            burn(t, 0, k);
            t.x.restart();
            t.steps("p0 p1 p2 p3 p4 p5 p6 p7 p0 p1 p2 p3 p4 p5 p6");
            t.sizes(0, 8, 0, k + 45);
        }
    }

    /** "False when the machine has stopped": there is no fuse when it starts again. */
    private static void notSetWhenStopped() {
        Trial t = new Trial("fuse when stopped");
        t.x.fuse(2);
        burn(t, 0, 2);
        for (int k : new int[] {1, 2, 20, 0, 21}) {
            t.due("fuse(" + k + ")", t.x.fuse(k), false);
        }
        t.x.restart();
        t.steps("p0 p0 p0 p0 p0 p0 p0 p0");
        t.due("fuse(1)", t.x.fuse(1), true);
        t.put("2", 0, DOWN);
    }

    /** "By a stop the text is emptied": the one that remove() has nothing to do with. */
    private static void theTextIsEmptied() {
        for (int k = 1; k <= 3; k++) {
            Trial t = new Trial("text at a stop behind block " + k).steps("p0 p1");
            t.x.fuse(k);
            t.type("[5]");
            t.due("remove(1)", t.x.remove(1), DOWN);
            t.due("size(0)", t.x.size(0), 0);
            t.x.restart();
            t.due("size(0)", t.x.size(0), 0);
            t.put("7", 2, 1);
            t.prints(-1, 2, "7");
        }
        Trial t = new Trial("text without a stop").steps("p0 p1");
        t.type("[5]");
        t.due("remove(1)", t.x.remove(1), 1);
        t.due("size(0)", t.x.size(0), 3);
    }

    /** "and all readers are closed": what they alone had is free. */
    private static void readersAreClosed() {
        for (int k = 1; k <= 3; k++) {
            Trial t = new Trial("readers at a stop behind block " + k).steps("p0 o p0 o p0 o p0");
            t.pages("212121210000");
            t.x.fuse(k);
            t.put("2", 0, DOWN);
            t.due("size(2)", t.x.size(2), 0);
            t.pages(k == 3 ? "000000212100" : "000021210000");
            t.x.restart();
            for (int r = 0; r < 3; r++) {
                t.due("print(" + r + ", 0)", t.x.print(r, 0), BAD);
                t.due("query(" + r + ", -1)", t.x.query(r, -1), BAD);
                t.due("close(" + r + ")", t.x.close(r), false);
            }
            t.due("open()", t.x.open(), 0);
            t.prints(0, 0, k == 3 ? "2" : "1");
        }
    }

    /** "(Calls that don't tell DOWN answer as ever.)" and "Results and output stay as they are when ... the machine stops" */
    private static void callsThatDoNotTellDown() {
        Trial t = new Trial("calls that don't tell DOWN");
        t.put("[[1],2]", 6, 4);
        t.query("$.*", -1, 6, 2);
        t.prints(-1, 6, "[[1],2]");
        t.x.fuse(1);
        t.due("remove(6)", t.x.remove(6), DOWN);
        t.due("output", t.written(), "[[1],2]");
        t.results("6:[1]", "6:2");
        t.due("output", t.written(), "2");
        t.pages("210000000000");
        t.sizes(0, 0, 0, 4, 0, 2, 1);
        t.due("page(12)", t.x.page(12), BAD);
        t.due("size(7)", t.x.size(7), BAD);
        t.due("output(1)", t.x.output(1), BAD);
        t.due("restart()", t.x.restart(), true);
        t.due("output", t.written(), "2");
        t.results("6:[1]", "6:2");
    }

    private static void callsThatTellDown() {
        Trial t = new Trial("calls that tell DOWN").steps("p0");
        t.x.fuse(1);
        t.put("2", 0, DOWN);
        for (int n = 0; n < 2; n++) {
            t.due("type('1')", t.x.type('1'), DOWN);
            t.due("put(0)", t.x.put(0), DOWN);
            t.due("patch(0)", t.x.patch(0), DOWN);
            t.due("remove(0)", t.x.remove(0), DOWN);
            t.due("query(-1, 0)", t.x.query(-1, 0), DOWN);
            t.due("print(-1, 0)", t.x.print(-1, 0), DOWN);
            t.due("open()", t.x.open(), DOWN);
            t.due("close(0)", t.x.close(0), false);
            t.due("fuse(1)", t.x.fuse(1), false);
        }
        t.sizes(0, 1, 0, 4, 1, 1, 1);
    }

    /** "Starts the machine again. False when it has not stopped." */
    private static void stopsOneAfterTheOther() {
        Trial t = new Trial("stops one after the other").steps("p0 p4");
        for (int n = 1; n <= 12; n++) {
            t.due("restart()", t.x.restart(), false);
            t.x.fuse(n % 2 == 0 ? 2 : 1);
            t.put("[9]", n % 8, DOWN);
            t.due("size(6)", t.x.size(6), 1);
            t.due("restart()", t.x.restart(), true);
            t.sizes(0, 2, 0, 6 + n + n / 2, 0, 2, 0);
            t.pages("212100000000");
        }
        t.prints(-1, 0, "1");
        t.prints(-1, 4, "1");
    }
}
