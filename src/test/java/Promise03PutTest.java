/** Promise 3: a text becomes a document, or is at fault at the right place. */
public final class Promise03PutTest extends Cases {
    private static final String TWENTY_THREE_ONES = "1,1,1,1,1,1,1,1,1,1,1,1,1,1,1,1,1,1,1,1,1,1,1";

    public static void main(String[] args) {
        values();
        sizesOfValues();
        faultsOfScalars();
        faultsOfStrings();
        faultsOfParts();
        limits();
        orderOfAnswers();
        Trial.end();
    }

    private static void values() {
        taken("null", 1, "null");
        taken("true", 1, "true");
        taken("false", 1, "false");
        taken("0", 1, "0");
        taken("-0", 1, "0");
        taken("7", 1, "7");
        taken("-10", 1, "-10");
        taken("999999", 1, "999999");
        taken("-999999", 1, "-999999");
        taken("\"\"", 1, "\"\"");
        taken("\"abcdefghij\"", 1, "\"abcdefghij\"");
        taken("\"\\\\\\\"\"", 1, "\"\\\\\\\"\"");
        taken("\" ~\u007f\u0080\u00ff\"", 1, "\" ~\u007f\u0080\u00ff\"");
        taken("[]", 1, "[]");
        taken("{}", 1, "{}");
        taken(" \t\n\r[ \t\n\r1 \t\n\r, \t\n\r2 \t\n\r] \t\n\r", 3, "[1,2]");
        taken(" \t\n\r{ \t\n\r\"a\" \t\n\r: \t\n\r2 \t\n\r, \t\n\r\"b\" \t\n\r:1} \t\n\r", 3, "{\"a\":2,\"b\":1}");
        taken("{\"\":0,\" \":1}", 3, "{\"\":0,\" \":1}");
        taken("{\"z\":0,\"a\":{\"z\":[]}}", 4, "{\"z\":0,\"a\":{\"z\":[]}}");
        taken("{\"\\\"\":1,\"\\\\\":2}", 3, "{\"\\\"\":1,\"\\\\\":2}");
    }

    private static void sizesOfValues() {
        taken("[[[[]]]]", 4, "[[[[]]]]");
        taken("{\"a\":{\"a\":{\"a\":{\"a\":1}}}}", 5, "{\"a\":{\"a\":{\"a\":{\"a\":1}}}}");
        taken("[[[[1]],[]],{\"a\":[]}]", 8, "[[[[1]],[]],{\"a\":[]}]");
        taken("[" + TWENTY_THREE_ONES + "]", 24, "[" + TWENTY_THREE_ONES + "]");
    }

    private static void faultsOfScalars() {
        fault("", 0);
        fault("  ", 2);
        fault("x", 0);
        fault("nul", 3);
        fault("nulx", 3);
        fault("nullx", 4);
        fault("null,", 4);
        fault("tRue", 1);
        fault("fals e", 4);
        fault("n ull", 1);
        fault("-", 1);
        fault("--1", 1);
        fault("- 1", 1);
        fault("+1", 0);
        fault("00", 1);
        fault("01", 1);
        fault("-01", 2);
        fault("1000000", 6);
        fault("9999990", 6);
        fault("-1000000", 7);
        fault("1.5", 1);
        fault("1e5", 1);
        fault("1 2", 2);
        fault("1\u000b", 1);
        fault("\u00a01", 0);
        fault("]", 0);
        fault("}", 0);
        fault(",", 0);
        fault(":", 0);
    }

    private static void faultsOfStrings() {
        fault("\"", 1);
        fault("\"ab", 3);
        fault("\"ab\"c", 4);
        fault("\"a\tb\"", 2);
        fault("\"a\u001fb\"", 2);
        fault("\"a\u0100b\"", 2);
        fault("\"\\", 2);
        fault("\"\\n\"", 2);
        fault("\"\\/\"", 2);
        fault("'a'", 0);
        fault("\"abcdefghijk\"", 11);
        fault("\"abcdefghij\\\"\"", 11);
        fault("\"abcdefghij\\n\"", 11);
        fault("\"abcdefghij\n\"", 11);
        fault("\"abcdefghij", 11);
        fault("\"abcdefgh\\\\\\\\k\"", 13);
        taken("\"abcdefgh\\\\\\\\\"", 1, "\"abcdefgh\\\\\\\\\"");
    }

    private static void faultsOfParts() {
        fault("[", 1);
        fault("[ ", 2);
        fault("[1", 2);
        fault("[1,", 3);
        fault("[1,]", 3);
        fault("[,1]", 1);
        fault("[1 2]", 3);
        fault("[1}", 2);
        fault("[1:2]", 2);
        fault("[]]", 2);
        fault("{", 1);
        fault("{]", 1);
        fault("{,", 1);
        fault("{1:1}", 1);
        fault("{\"a\"", 4);
        fault("{\"a\"}", 4);
        fault("{\"a\",", 4);
        fault("{\"a\":", 5);
        fault("{\"a\":}", 5);
        fault("{\"a\":1", 6);
        fault("{\"a\":1]", 6);
        fault("{\"a\":1,", 7);
        fault("{\"a\":1,}", 7);
        fault("{\"a\":1,2}", 7);
        fault("{\"a\":1 \"b\":2}", 7);
        fault("{\"a\":1,\"a\":2}", 7);
        fault("{\"a\":1, \"a\"", 8);
        fault("{\"a\":1,\"b\":2,\"a\"x", 13);
        fault("{\"a\":1,\"a", 9);
        fault("{\"a\":1,\"a\t\"", 9);
        fault("{\"\\\\\":1,\"\\\\\":2}", 8);
        fault("{\"\":1,\"\":2}", 6);
        fault("{\"abcdefghijk\":1}", 12);
        taken("{\"a\":{\"a\":1},\"b\":{\"a\":2}}", 5, "{\"a\":{\"a\":1},\"b\":{\"a\":2}}");
    }

    private static void limits() {
        fault("[" + TWENTY_THREE_ONES + ",1]", 47);
        fault("[" + TWENTY_THREE_ONES + ",", 47);
        fault("[" + TWENTY_THREE_ONES + ", [", 48);
        fault("[" + TWENTY_THREE_ONES + ",}", 47);
        fault("[" + TWENTY_THREE_ONES.substring(2) + ",{\"a\" : 1}]", 52);
        fault("[" + TWENTY_THREE_ONES.substring(2) + ",[\"a\"]]", 46);
        taken("[" + TWENTY_THREE_ONES.substring(2) + ",[ ]]", 24, "[" + TWENTY_THREE_ONES.substring(2) + ",[]]");
        fault("[[[[[]]]]]", 4);
        fault("[[[[{}]]]]", 4);
        fault("[[[{\"a\":[", 8);
        fault("{\"a\":{\"a\":{\"a\":{\"a\":{", 20);
        taken("[[[[1,\"[\"]]],[[[]]]]", 9, "[[[[1,\"[\"]]],[[[]]]]");
    }

    private static void orderOfAnswers() {
        Trial t = new Trial("order of answers");
        t.type("1");
        for (int id : new int[] {-1, 8, Integer.MIN_VALUE, Integer.MAX_VALUE}) {
            t.due("put(" + id + ")", t.x.put(id), PagedValues.BAD);
        }
        t.sizes(1, 0, 0, 0, 0, 0, 0);
        t.due("put(7)", t.x.put(7), 1);
        t.put("x", 7, -100);
        t.prints(-1, 7, "1");
        t.put("1", 7, 1);
        t.sizes(0, 1, 0, 6, 0, 2, 0);

        Trial full = new Trial("full");
        full.fill("4", 1);
        full.put("[7", 0, -102);
        full.put("7", 0, PagedValues.FULL);
        full.sizes(0, 3, 3, 18, 0, 6, 0);
        full.pages("222121121210");
        full.prints(-1, 0, "4");
        full.type("[").x.close(0);
        full.due("put(9)", full.x.put(9), PagedValues.BAD);
        full.type("]");
        full.due("put(0)", full.x.put(0), 1);

        Trial down = new Trial("down");
        down.x.fuse(3);
        down.put("[1]", 3, PagedValues.DOWN);
        down.due("put(3)", down.x.put(3), PagedValues.DOWN);
        down.due("put(8)", down.x.put(8), PagedValues.DOWN);
        down.sizes(0, 1, 0, 3, 1, 1, 1);
        down.x.restart();
        down.prints(-1, 3, "[1]");
    }
}
