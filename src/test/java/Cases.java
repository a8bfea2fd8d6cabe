/** Cases that many tests have in common, each tried on an object of its own. */
class Cases {
    static final int DOWN = PagedValues.DOWN;
    static final int BAD = PagedValues.BAD;
    static final int FULL = PagedValues.FULL;
    static final int MALFORMED = PagedValues.MALFORMED;
    static final int TOO_BIG = PagedValues.TOO_BIG;
    static final int TOO_MANY = PagedValues.TOO_MANY;

    /** The text is a value of this size, and is written so. */
    static void taken(String text, int size, String written) {
        Trial t = new Trial("put");
        t.put(text, 0, size);
        t.sizes(0, 1, 0, 3, 1, 1, 0);
        t.prints(-1, 0, written);
    }

    /** The text is a value that is written as it was typed. */
    static void taken(String text, int size) {
        taken(text, size, text);
    }

    /** The text is at fault as a value, and the document that was there stays. */
    static void fault(String text, int place) {
        Trial t = new Trial("fault");
        t.put("7", 0, 1);
        t.put(text, 0, -100 - place);
        t.sizes(0, 1, 0, 3, 1, 1, 0);
        t.pages("210000000000");
        t.prints(-1, 0, "7");
    }

    /** The operations make this of the document. */
    static void changed(String document, String operations, int size, String written) {
        Trial t = new Trial("patch of " + document);
        t.type(document).x.put(0);
        t.patch("[" + operations + "]", 0, size);
        t.sizes(0, 1, 0, 6, 0, 2, 0);
        t.prints(-1, 0, written);
    }

    /** The text is refused as a list of operations, and the document stays. */
    static void refused(String document, String text, int answer) {
        Trial t = new Trial("patch of " + document);
        t.type(document).x.put(0);
        t.patch(text, 0, answer);
        t.sizes(0, 1, 0, 3, 1, 1, 0);
        t.pages("210000000000");
        t.prints(-1, 0, document);
    }

    static void fails(String document, String operation) {
        refused(document, "[" + operation + "]", -10);
    }

    static void tooBig(String document, String operations) {
        refused(document, "[" + operations + "]", TOO_BIG);
    }

    static void malformed(String text) {
        refused("[1]", text, MALFORMED);
    }

    static String add(String path, String value) {
        return "{\"op\":\"add\",\"path\":\"" + path + "\",\"value\":" + value + "}";
    }

    static String replace(String path, String value) {
        return "{\"op\":\"replace\",\"path\":\"" + path + "\",\"value\":" + value + "}";
    }

    static String remove(String path) {
        return "{\"op\":\"remove\",\"path\":\"" + path + "\"}";
    }

    static String copy(String from, String path) {
        return "{\"op\":\"copy\",\"from\":\"" + from + "\",\"path\":\"" + path + "\"}";
    }

    /** The query has these results in the document. */
    static void found(String document, String query, String... results) {
        Trial t = new Trial("query of " + document);
        t.type(document).x.put(0);
        t.query(query, -1, 0, results.length);
        t.sizes(0, 1, 0, 3, 1, 1, 0);
        String[] want = new String[results.length];
        for (int i = 0; i < want.length; i++) {
            want[i] = "0:" + results[i];
        }
        t.results(want);
    }

    /** The text is at fault as a query, and the results that were there go. */
    static void queryFault(String query, int place) {
        Trial t = new Trial("fault in a query");
        t.put("[1]", 0, 2);
        t.query("$", -1, 0, 1);
        t.query(query, -1, 0, -100 - place);
        t.sizes(0, 1, 0, 3, 1, 1, 0);
        t.results();
    }

    /** So many times the word, with commas between. */
    static String row(String word, int times) {
        StringBuilder all = new StringBuilder();
        for (int n = 0; n < times; n++) {
            all.append(n == 0 ? "" : ",").append(word);
        }
        return all.toString();
    }
}
