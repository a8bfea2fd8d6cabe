/** The bounds that the section VALUES names: of numbers, strings, names, sizes and depths. */
public final class BoundsOfValuesTest extends Cases {
    private static final String MOST = "[" + row("1", 23) + "]";

    public static void main(String[] args) {
        numbers();
        stringsOfTenCharacters();
        namesOfTenCharacters();
        charactersOfStrings();
        charactersOfNames();
        noTwoNamesAlike();
        sizes();
        sizeOf24();
        sizeOf24AfterOperations();
        depthOf4();
        depthOf4AfterOperations();
        Trial.end();
    }

    /** "NUMBERS -999999 .. 999999" */
    private static void numbers() {
        taken("999999", 1);
        fault("1000000", 6);
        fault("9999999", 6);
        fault("999999999999999999999999", 6);
        taken("-999999", 1);
        fault("-1000000", 7);
        fault("-9999999", 7);
        taken("[999998,-999998,100000,-100000,99999]", 6);
        fault("[1,-9999990]", 10);
        fault("{\"a\":1000000}", 11);
    }

    /** "STRINGS of at most ten characters" */
    private static void stringsOfTenCharacters() {
        taken("\"\"", 1);
        taken("\"a\"", 1);
        taken("\"abcdefghi\"", 1);
        taken("\"abcdefghij\"", 1);
        fault("\"abcdefghijk\"", 11);
        fault("[\"\",\"abcdefghijk\"]", 15);
        taken("\"" + "\\\\".repeat(10) + "\"", 1);
        fault("\"" + "\\\\".repeat(11) + "\"", 21);
        taken("\"" + "\\\"".repeat(10) + "\"", 1);
        fault("\"" + "\\\"".repeat(11) + "\"", 21);
    }

    /** "a NAME (a string)" */
    private static void namesOfTenCharacters() {
        taken("{\"\":1}", 2);
        taken("{\"abcdefghij\":1}", 2);
        fault("{\"abcdefghijk\":1}", 12);
        taken("{\"" + "\\\"".repeat(10) + "\":1}", 2);
        fault("{\"" + "\\\"".repeat(11) + "\":1}", 22);
    }

    /** "characters 32 .. 255": every one of them, alone in a string. */
    private static void charactersOfStrings() {
        for (char c = 0; c <= 300; c++) {
            if (c < 32 || c > 255) {
                fault("\"" + c + "\"", 1);
                fault("\"ab" + c + "\"", 3);
            } else if (c != '"' && c != '\\') {
                taken("\"" + c + "\"", 1);
            }
        }
        fault("\"\uffff\"", 1);
        fault("\"\u0120\"", 1);
        fault("\"\u8041\"", 1);
    }

    private static void charactersOfNames() {
        taken("{\" \":1,\"\u00ff\":2}", 3);
        fault("{\"\u001f\":1}", 2);
        fault("{\"\u0100\":1}", 2);
        fault("{\"\u0141\":1}", 2);
    }

    /** "no two names alike" */
    private static void noTwoNamesAlike() {
        fault("{\"a\":1,\"a\":2}", 7);
        fault("{\"a\":1,\"a\":1}", 7);
        fault("{\"\":1,\"\":2}", 6);
        fault("{\"b\":1,\"a\":2,\"a\":3}", 13);
        fault("{\"a\":1,\"b\":2,\"a\":3}", 13);
        fault("{\"x\":{\"a\":1,\"a\":2}}", 12);
        fault("{\"abcdefghij\":1,\"abcdefghij\":2}", 16);
        fault("{\"\\\\\":1,\"\\\\\":2}", 8);
        taken("{\"abcdefghij\":1,\"abcdefghik\":2}", 3);
        taken("{\"a\":1,\"A\":2,\"aa\":3,\"\":4,\" a\":5,\"a \":6}", 7);
        taken("{\"\\\\\":1,\"\\\"\":2}", 3);
        taken("{\"a\":{\"a\":1},\"b\":{\"a\":2}}", 5);
        taken("[{\"a\":1},{\"a\":1}]", 5);
    }

    /** "Its SIZE is 1 and the sizes of its parts": names are no parts. */
    private static void sizes() {
        for (String one : new String[] {"null", "true", "false", "0", "\"\"", "[]", "{}"}) {
            taken(one, 1);
            taken("[" + one + "]", 2);
            taken("{\"a\":" + one + "}", 2);
            taken("[" + one + ",[" + one + "]]", 4);
        }
    }

    /** "No document has a size above 24": what is typed. */
    private static void sizeOf24() {
        taken("[" + row("1", 22) + "]", 23);
        taken(MOST, 24);
        fault("[" + row("1", 24) + "]", 47);
        taken("[" + row("[]", 22) + ",{}]", 24);
        fault("[" + row("[]", 23) + ",{}]", 70);
        taken("[" + row("[1]", 11) + ",1]", 24);
        fault("[" + row("[1]", 11) + ",[1]]", 46);
        taken("{\"a\":[" + row("1", 22) + "]}", 24);
        fault("{\"a\":[" + row("1", 23) + "]}", 50);
    }

    /** The same for what operations make: add, replace and copy. */
    private static void sizeOf24AfterOperations() {
        String less = "[" + row("1", 22) + "]";
        changed(less, add("/0", "1"), 24, MOST);
        tooBig(MOST, add("/0", "1"));
        tooBig(less, add("/0", "[1]"));
        changed(less, replace("/0", "[1]"), 24, "[[1]," + row("1", 21) + "]");
        tooBig(less, replace("/0", "[1,1]"));
        tooBig(MOST, replace("/0", "[1]"));
        changed("[" + row("1", 11) + "]", copy("", "/-"), 24, "[" + row("1", 11) + ",[" + row("1", 11) + "]]");
        tooBig("[" + row("1", 12) + "]", copy("", "/-"));
        fails(MOST, copy("/0", "/a"));
    }

    /** "or a depth above 4": what is typed. */
    private static void depthOf4() {
        taken("[[[[]]]]", 4);
        fault("[[[[[]]]]]", 4);
        fault("[[[[{}]]]]", 4);
        taken("[[[{}]]]", 4);
        taken("[[[[1,\"[\",null]]]]", 7);
        taken("{\"a\":{\"a\":{\"a\":{\"a\":1}}}}", 5);
        fault("{\"a\":{\"a\":{\"a\":{\"a\":{}}}}}", 20);
        fault("{\"a\":{\"a\":{\"a\":{\"a\":[]}}}}", 20);
        taken("[[[[]]],[[[]]],{\"a\":[{}]}]", 10);
        fault("[[[[]]],[[[]]],{\"a\":[{\"b\":[", 26);
    }

    /** The same for what operations make. */
    private static void depthOf4AfterOperations() {
        changed("[[[]]]", add("/0/0/0", "[]"), 4, "[[[[]]]]");
        changed("[[[]]]", add("/0/0/0", "{}"), 4, "[[[{}]]]");
        tooBig("[[[[]]]]", add("/0/0/0/0", "[]"));
        tooBig("[[[[]]]]", add("/0/0/0/0", "{}"));
        changed("[[[[]]]]", add("/0/0/0/0", "1"), 5, "[[[[1]]]]");
        changed("[[[1]]]", replace("/0/0/0", "[]"), 4, "[[[[]]]]");
        tooBig("[[[1]]]", replace("/0/0/0", "[[]]"));
        tooBig("[[[[1]]]]", replace("/0/0/0/0", "{}"));
        changed("[[]]", copy("", "/0/0"), 4, "[[[[]]]]");
        tooBig("[[[]]]", copy("", "/0/0/0"));
        tooBig("[[[[]]]]", copy("", "/-"));
        tooBig("{\"a\":{\"a\":{\"a\":{}}}}", copy("", "/a"));
        tooBig("[[[[1]]]]", copy("", "/0/0/0/0"));
    }
}
