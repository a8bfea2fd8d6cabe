/** What can and what can't stand where in the FORM OF A VALUE, and how a value is WRITTEN. */
public final class BoundsOfFormTest extends Cases {
    private static final char[] BLANKS = {32, 9, 10, 13};
    private static final char[] NEARLY_BLANKS = {0, 8, 11, 12, 14, 31, 127, 133, 160, 0x2028, 0x0120};

    public static void main(String[] args) {
        blanks();
        noOtherBlanks();
        blanksWithinWords();
        words();
        numbers();
        charactersNextToDigits();
        strings();
        escapes();
        theEleventhCharacter();
        arrays();
        objects();
        aNameThatIsThereAlready();
        the25thValue();
        withinFourOthers();
        theEnd();
        written();
        Trial.end();
    }

    /** "they may stand before and behind every value and every one of the signs": here at each @. */
    private static void blanks() {
        String text = "@[@null@,@{@\"a\"@:@-12@,@\"b\"@:@\"c\"@}@,@[@]@,@{@}@]@";
        String bare = text.replace("@", "");
        for (char blank : BLANKS) {
            taken(text.replace("@", "" + blank), 7, bare);
            for (int n = text.indexOf('@'); n >= 0; n = text.indexOf('@', n + 1)) {
                String one = text.substring(0, n).replace("@", "") + blank + text.substring(n + 1).replace("@", "");
                taken(one, 7, bare);
            }
        }
        taken(" \t\n\r1\r\n\t ", 1, "1");
    }

    /** "Blanks are the characters 32, 9, 10, 13": any other one can't stand there. */
    private static void noOtherBlanks() {
        String text = "@[@null@,@{@\"a\"@:@-12@}@,@[@]@]@";
        for (char c : NEARLY_BLANKS) {
            for (int n = text.indexOf('@'); n >= 0; n = text.indexOf('@', n + 1)) {
                String before = text.substring(0, n).replace("@", "");
                fault(before + c + text.substring(n + 1).replace("@", ""), before.length());
            }
        }
    }

    private static void blanksWithinWords() {
        for (char blank : BLANKS) {
            fault("nu" + blank + "ll", 2);
            fault("t" + blank + "rue", 1);
            fault("fals" + blank + "e", 4);
            fault("-" + blank + "1", 1);
            fault("1" + blank + "2", 2);
        }
        taken("\" a b \"", 1);
        taken("{\" a b \":1}", 2);
        fault("\"\t\"", 1);
        fault("\"\n\"", 1);
        fault("\"\r\"", 1);
        fault("\"\\ \"", 2);
    }

    /** "null, true, false": each letter in its place, and none behind. */
    private static void words() {
        for (String word : new String[] {"null", "true", "false"}) {
            taken(word, 1);
            for (int n = 0; n < word.length(); n++) {
                String start = word.substring(0, n);
                fault(start, n);
                fault(start + "x", n);
                fault(start + Character.toUpperCase(word.charAt(n)) + word.substring(n + 1), n);
                fault("[" + start, n + 1);
                fault("[" + start + ",", n + 1);
            }
            fault(word + word, word.length());
            fault(word + "1", word.length());
            fault(word + "\"", word.length());
        }
        fault("nil", 1);
        fault("NULL", 0);
        fault("undefined", 0);
    }

    /** "a number is an optional - and digits, without a 0 in front of other digits (-0 is 0)" */
    private static void numbers() {
        taken("0", 1);
        taken("-0", 1, "0");
        taken("[-0,0]", 3, "[0,0]");
        fault("-", 1);
        fault("[-]", 2);
        fault("--0", 1);
        fault("+0", 0);
        fault("0-", 1);
        fault("1-1", 1);
        fault("00", 1);
        fault("000000", 1);
        fault("09", 1);
        fault("01", 1);
        fault("-00", 2);
        fault("-01", 2);
        fault("-09", 2);
        taken("10", 1);
        taken("-10", 1);
        taken("1", 1);
        taken("9", 1);
        taken("-9", 1);
        taken("900000", 1);
        fault("[0000000]", 2);
        fault("[1,-0000000]", 5);
    }

    /** Digits are 0 .. 9 and nothing next to them. */
    private static void charactersNextToDigits() {
        for (char c : new char[] {'/', ':', '.', 'e', 'E', 'a', '+', '_', '\'', 0x0661, 0x0130}) {
            fault("" + c, 0);
            fault("-" + c, 1);
            fault("1" + c, 1);
            fault("-1" + c, 2);
            fault("0" + c, 1);
        }
    }

    /** "a string is " and characters and "" */
    private static void strings() {
        taken("\"\"", 1);
        fault("\"", 1);
        fault("\"a", 2);
        fault("[\"a]", 4);
        fault("'a'", 0);
        fault("a", 0);
        fault("\"a\"\"", 3);
        fault("\"\"\"", 2);
        taken("\"'[]{},:/\"", 1);
    }

    /** "or \ and one of " and \, which stands for that" */
    private static void escapes() {
        taken("\"\\\"\"", 1);
        taken("\"\\\\\"", 1);
        fault("\"\\\"", 3);
        fault("\"\\", 2);
        fault("\"\\\\", 3);
        for (char c : new char[] {'n', 't', 'u', '/', '\'', 'b', '0', ' ', ']', '[', '#', '!', 0, 10, 255, 0x0122, 0x015c}) {
            fault("\"\\" + c + "\"", 2);
            fault("{\"a\\" + c + "\":1}", 4);
        }
        Trial t = new Trial("what an escape stands for");
        t.put("{\"\\\\\":\"\\\"\"}", 0, 2);
        t.patch("[{\"op\":\"copy\",\"from\":\"/\\\\\",\"path\":\"\"}]", 0, 1);
        t.prints(-1, 0, "\"\\\"\"");
    }

    /** "an eleventh character of a string (the \ of an escape is its place)" */
    private static void theEleventhCharacter() {
        String ten = "\"abcdefghij";
        taken(ten + "\"", 1);
        for (char c : new char[] {'k', ' ', '\\', 0, 9, 31, 255, 256, '\'', ']'}) {
            fault(ten + c, 11);
            fault(ten + c + "\"", 11);
        }
        fault(ten, 11);
        fault(ten + "\\\"\"", 11);
        fault(ten + "\\\\\"", 11);
        fault("\"\\\\bcdefghij\\\\\"", 12);
        fault("\"abcdefghi\\\"\\\"\"", 12);
        fault("{" + ten + "k\":1}", 12);
        fault("{" + ten + "\\\"\":1}", 12);
        taken("\"abcdefghi\\\"\"", 1);
    }

    /** "[ ] with values and , between them" */
    private static void arrays() {
        taken("[]", 1);
        taken("[1]", 2);
        taken("[1,2]", 3);
        fault("[,]", 1);
        fault("[1,]", 3);
        fault("[,1]", 1);
        fault("[1,,2]", 3);
        fault("[1 2]", 3);
        fault("[1\"a\"]", 2);
        fault("[[][]]", 3);
        fault("[1;2]", 2);
        fault("[1:2]", 2);
        fault("[}", 1);
        fault("[1}", 2);
        fault("[1", 2);
        fault("[1,", 3);
        fault("[\"a\":1]", 4);
    }

    /** "{ } with members name : value and , between them" */
    private static void objects() {
        taken("{}", 1);
        taken("{\"a\":1}", 2);
        taken("{\"a\":1,\"b\":2}", 3);
        fault("{,}", 1);
        fault("{\"a\"}", 4);
        fault("{\"a\",\"b\"}", 4);
        fault("{\"a\":}", 5);
        fault("{\"a\":,", 5);
        fault("{\"a\"::1}", 5);
        fault("{\"a\" 1}", 5);
        fault("{\"a\"=1}", 4);
        fault("{:1}", 1);
        fault("{a:1}", 1);
        fault("{1:1}", 1);
        fault("{null:1}", 1);
        fault("{[]:1}", 1);
        fault("{\"a\":1,}", 7);
        fault("{\"a\":1,,", 7);
        fault("{\"a\":1,2}", 7);
        fault("{\"a\":1 \"b\":2}", 7);
        fault("{\"a\":1:2}", 6);
        fault("{\"a\":1]", 6);
        fault("{]", 1);
        fault("{", 1);
        fault("{\"a\"", 4);
        fault("{\"a\":", 5);
        fault("{\"a\":1", 6);
        fault("{\"a\":1,", 7);
    }

    /** "(this is found when the name has ended, and nothing in the name was at fault)" */
    private static void aNameThatIsThereAlready() {
        fault("{\"a\":1,\"a\"", 7);
        fault("{\"a\":1, \t\"a\"", 9);
        fault("{\"a\":1,\"a\"x", 7);
        fault("{\"a\":1,\"a", 9);
        fault("{\"a\":1,\"ab", 10);
        fault("{\"a\":1,\"ab\"", 11);
        fault("{\"a\":1,\"a\t\"", 9);
        fault("{\"a\":1,\"a\\", 10);
        fault("{\"a\":1,\"a\\a\"", 10);
        fault("{\"a\":1,\"a\u0100\"", 9);
        fault("{\"abcdefghij\":1,\"abcdefghijk\"", 27);
        fault("{\"abcdefghij\":1,\"abcdefghij", 27);
        fault("{\"abcdefghij\":1,\"abcdefghij\"", 16);
    }

    /** "what begins a 25th value": whatever it is, in an array or as a member's value; what ends is no value. */
    private static void the25thValue() {
        String has22 = "[" + row("1", 22);
        String has23 = "[" + row("1", 23);
        int behind22 = has22.length() + 1;
        int behind23 = has23.length() + 1;
        for (String value : new String[] {"null", "true", "false", "1", "-1", "\"\"", "[]", "{}"}) {
            taken(has22 + "," + value + "]", 24);
            fault(has23 + "," + value + "]", behind23);
            fault(has23 + ", \t" + value + "]", behind23 + 2);
            fault(has22 + ",[" + value + "]]", behind22 + 1);
            fault(has22 + ",{\"a\":" + value + "}]", behind22 + 5);
            fault(has22 + ",{ \"a\" : " + value + "}]", behind22 + 8);
        }
        taken(has22 + ",[ ]]", 24, has22 + ",[]]");
        taken(has22 + ",{ }]", 24, has22 + ",{}]");
        fault(has23 + ",", behind23);
        fault(has23 + ",x", behind23);
        fault(has23 + ",]", behind23);
        fault(has23 + "]]", behind23);
        fault(has22 + ",{\"a\"]", behind22 + 4);
        fault(has22 + ",{\"a\":", behind22 + 5);
        fault("{\"a\":[" + row("1", 22) + "],\"a\":1}", 51);
        fault("{\"a\":[" + row("1", 22) + "],\"b\":1}", 55);
    }

    /** "a [ or { within four others" */
    private static void withinFourOthers() {
        for (String four : new String[] {"[[[[", "[[[{\"a\":", "{\"a\":[[{\"b\":", "{\"a\":{\"a\":{\"a\":{\"a\":"}) {
            fault(four + "[", four.length());
            fault(four + "{", four.length());
            fault(four + " [", four.length() + 1);
        }
        taken("[[[[\"[{\"]]]]", 5);
        taken("[[[[],[]],[[]]],[[[]]]]", 10);
        fault("[[[[]]],[[[[]]]]]", 11);
        fault("[1,[2,[3,[4,[5]]]]]", 12);
        fault("{\"a\":[{\"b\":[1,{}]}]}", 14);
    }

    /** "The text ends behind the value and its blanks." */
    private static void theEnd() {
        for (String value : new String[] {"null", "0", "-1", "\"a\"", "[]", "{}", "[1]", "{\"a\":1}"}) {
            int length = value.length();
            for (char c : new char[] {'x', ',', ':', ']', '}', '[', '{', '"', 'n', '-', 0, 255, 256}) {
                fault(value + c, length);
                fault(value + "  " + c, length + 2);
            }
            fault(value + " 1", length + 1);
        }
    }

    /** "without blanks, members in their order, numbers as usual, the characters " and \ of a string with a \ before them" */
    private static void written() {
        taken(" [ ] ", 1, "[]");
        taken(" { } ", 1, "{}");
        taken("{\"b\" : 1 , \"a\" : 2 , \"\" : 3}", 4, "{\"b\":1,\"a\":2,\"\":3}");
        taken("[ -999999 , 999999 , -0 , 0 , -1 ]", 6, "[-999999,999999,0,0,-1]");
        taken("{\"\\\\\\\"\":\"\\\"\\\\\"}", 2);
        taken("[ \" \" , \" [ ] \" ]", 3, "[\" \",\" [ ] \"]");
        taken("\"/\u007f\u0080\u00ff'\"", 1);
    }
}
