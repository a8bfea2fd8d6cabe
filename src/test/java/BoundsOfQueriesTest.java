/** What can and what can't stand where in the FORM OF A QUERY. */
public final class BoundsOfQueriesTest extends Cases {
    private static final String NAMES = "{\"abcdefghij\":1,\"abcdefghi\":2,\"a_9Z\":9}";

    public static void main(String[] args) {
        theShortest();
        noBlanks();
        dots();
        brackets();
        twoDots();
        namesOfTenCharacters();
        firstCharactersOfNames();
        laterCharactersOfNames();
        quotedNames();
        charactersOfQuotedNames();
        numbers();
        eightSelectors();
        theNinthSelector();
        theNinthThatIsNone();
        Trial.end();
    }

    /** "$ and segments": none at all, too. */
    private static void theShortest() {
        found("7", "$", "7");
        queryFault("", 0);
        for (String text : new String[] {"a", ".a", "[0]", "*", "@", "..a", "#$", "%"}) {
            queryFault(text, 0);
        }
        for (String text : new String[] {"$$", "$a", "$*", "$0", "$'a'", "$]", "$,", "$-"}) {
            queryFault(text, 1);
        }
    }

    /** "FORM OF A QUERY (no blanks)" */
    private static void noBlanks() {
        for (char blank : new char[] {32, 9, 10, 13}) {
            String text = "@$@.@a@.@.@[@0@,@'b'@,@*@]@";
            for (int n = text.indexOf('@'); n >= 0; n = text.indexOf('@', n + 1)) {
                String before = text.substring(0, n).replace("@", "");
                queryFault(before + blank + text.substring(n + 1).replace("@", ""), before.length());
            }
        }
    }

    /** "A segment is . and NAME or *" */
    private static void dots() {
        found("{\"a\":5}", "$.a", "5");
        found("{\"a\":5}", "$.*", "5");
        for (String text : new String[] {"$.", "$.'a'", "$.[0]", "$.0", "$.-1", "$.$", "$.]", "$.,"}) {
            queryFault(text, 2);
        }
        queryFault("$.*a", 3);
        queryFault("$.**", 3);
        queryFault("$.a*", 3);
        queryFault("$.a$", 3);
        queryFault("$.a]", 3);
        queryFault("$.a,b", 3);
        queryFault("$.a'", 3);
        queryFault("$.a.", 4);
    }

    /** "or [ selectors ]", "with , between them": one at least. */
    private static void brackets() {
        found("[5,6]", "$[0]", "5");
        found("[5,6]", "$[0,1]", "5", "6");
        found("[[5]]", "$[0][0]", "5");
        String[] texts = {"$[", "$[]", "$[,", "$[,0]", "$[a]", "$[.a]", "$[[0]]", "$[\"a\"]", "$[$]", "$[+1]", "$[)"};
        for (String text : texts) {
            queryFault(text, 2);
        }
        queryFault("$[0", 3);
        queryFault("$[0,", 4);
        queryFault("$[0,]", 4);
        queryFault("$[0,,1]", 4);
        queryFault("$[0 1]", 3);
        queryFault("$[0.1]", 3);
        queryFault("$[0:1]", 3);
        queryFault("$[0[", 3);
        queryFault("$[0}", 3);
        queryFault("$[*0]", 3);
        queryFault("$[**]", 3);
        queryFault("$['a'*]", 5);
        queryFault("$[0]]", 4);
        queryFault("$[0]a", 4);
        queryFault("$[0]0", 4);
    }

    /** "or .. and one of NAME, *, [ selectors ]" */
    private static void twoDots() {
        found("{\"a\":5}", "$..a", "5");
        found("{\"a\":5}", "$..*", "5");
        found("[5]", "$..[0]", "5");
        for (String text : new String[] {"$..", "$...", "$...a", "$..0", "$..'a'", "$..]", "$..-", "$..$", "$..,"}) {
            queryFault(text, 3);
        }
        queryFault("$..[", 4);
        queryFault("$..[]", 4);
        queryFault("$..[a]", 4);
        queryFault("$..[0", 5);
        queryFault("$..a..", 6);
    }

    /** "at most ten" characters of a NAME, behind one dot and behind two. */
    private static void namesOfTenCharacters() {
        found(NAMES, "$.abcdefghi", "2");
        found(NAMES, "$.abcdefghij", "1");
        queryFault("$.abcdefghijk", 12);
        queryFault("$.abcdefghij9", 12);
        queryFault("$.abcdefghij_", 12);
        found(NAMES, "$..abcdefghij", "1");
        queryFault("$..abcdefghijk", 13);
        found("{\"abcdefghij\":{\"a\":5}}", "$.abcdefghij.a", "5");
        found("{\"abcdefghij\":[5]}", "$.abcdefghij[0]", "5");
        queryFault("$.abcdefghij*", 12);
    }

    /** "a letter (a .. z, A .. Z) or _" */
    private static void firstCharactersOfNames() {
        for (int c = 0; c < 300; c++) {
            boolean letter = c < 128 && (Character.isLetter(c) || c == '_');
            if (letter) {
                found("{\"" + (char) c + "\":5,\"x1\":6}", "$." + (char) c, "5");
            } else if (c != '*' && c != '.') {
                queryFault("$." + (char) c, 2);
            }
            if (!letter && c != '*' && c != '[') {
                queryFault("$.." + (char) c, 3);
            }
        }
    }

    /** "then letters, digits, _" */
    private static void laterCharactersOfNames() {
        for (int c = 0; c < 300; c++) {
            if (c < 128 && (Character.isLetterOrDigit(c) || c == '_')) {
                found("{\"q" + (char) c + "\":5}", "$.q" + (char) c, "5");
            } else if (c != '.' && c != '[') {
                queryFault("$.q" + (char) c, 3);
            }
        }
        found(NAMES, "$.a_9Z", "9");
    }

    /** "'characters' (..., at most ten): a name": none at all, too. */
    private static void quotedNames() {
        found("{\"\":5}", "$['']", "5");
        found("{\"a\":5}", "$['a']", "5");
        found(NAMES, "$['abcdefghij']", "1");
        found(NAMES, "$['abcdefghi']", "2");
        queryFault("$['abcdefghijk']", 13);
        queryFault("$['abcdefghij", 13);
        queryFault("$['abcdefghij\\", 13);
        queryFault("$['", 3);
        queryFault("$['a", 4);
        queryFault("$['a'", 5);
        queryFault("$['a''", 5);
        queryFault("$['a'b]", 5);
        queryFault("$[0,'abcdefghijk']", 15);
        found("{\"0\":5,\"*\":6,\"-1\":7}", "$['-1','*','0']", "7", "6", "5");
    }

    /** "(32 .. 255 but ' and \ ...)": a " stands for itself. */
    private static void charactersOfQuotedNames() {
        for (int c = 0; c < 300; c++) {
            if (c < 32 || c > 255 || c == '\\') {
                queryFault("$['" + (char) c + "']", 3);
                queryFault("$['ab" + (char) c + "']", 5);
            } else if (c != '\'') {
                String name = c == '"' ? "\\\"" : "" + (char) c;
                found("{\"" + name + "\":5}", "$['" + (char) c + "']", "5");
            }
        }
        queryFault("$['\uffff']", 3);
        queryFault("$['''']", 4);
        queryFault("$['\\'']", 3);
    }

    /** "NUMBER: 0, or an optional - and digits without a 0 in front, at most three digits" */
    private static void numbers() {
        String ten = "[0,1,2,3,4,5,6,7,8,9,10]";
        found(ten, "$[0]", "0");
        found(ten, "$[9,10,11,100,999]", "9", "10");
        found(ten, "$[-1,-11,-12,-100,-999]", "10", "0");
        queryFault("$[1000]", 5);
        queryFault("$[9999]", 5);
        queryFault("$[-1000]", 6);
        queryFault("$[00]", 3);
        queryFault("$[01]", 3);
        queryFault("$[09]", 3);
        queryFault("$[-0]", 3);
        queryFault("$[-01]", 3);
        queryFault("$[-]", 3);
        queryFault("$[-", 3);
        queryFault("$[--1]", 3);
        queryFault("$[-a]", 3);
        queryFault("$[-*]", 3);
        queryFault("$[1-]", 3);
        queryFault("$[0-1]", 3);
        queryFault("$[0a]", 3);
        queryFault("$[/]", 2);
        queryFault("$[:]", 2);
        queryFault("$[1/]", 3);
        queryFault("$[999:", 5);
    }

    /** "at most eight in a query (that of . and NAME or * is one, too ...)" */
    private static void eightSelectors() {
        found("[5]", "$[0,0,0,0,0,0,0,0]", "5", "5", "5", "5", "5", "5", "5", "5");
        found("[5]", "$.a.b.c.d.e.f.g.h");
        found("[5]", "$..a..b..c..d..e..f..g..h");
        found("[5]", "$.*.*.*.*.*.*.*.*");
        found("[5]", "$[0][0][0][0][0][0][0][0]");
        found("[5]", "$['a'][*][0].a..b..*..[1,-1]");
        found("[5]", "$[0,0,0,0].a.b[0,0]");
    }

    /** "what begins a ninth can't stand there: behind . or .. its NAME's first character or *" */
    private static void theNinthSelector() {
        String[] eights = {"$[0,0,0,0,0,0,0,0]", "$.a.b.c.d.e.f.g.h", "$.*.*.*.*.*.*.*.*", "$..a..b..c..d..e..f..g..h",
            "$['a'][*][0].a..b..*..[1,-1]", "$.a[0,0,0].b[0,0,0]"};
        for (String eight : eights) {
            int length = eight.length();
            for (String segment : new String[] {".a", ".*", "[0]", "[-1]", "[*]", "['a']"}) {
                queryFault(eight + segment, length + 1);
            }
            for (String segment : new String[] {"..a", "..*"}) {
                queryFault(eight + segment, length + 2);
            }
            for (String segment : new String[] {"..[0]", "..[*]", "..['a']"}) {
                queryFault(eight + segment, length + 3);
            }
        }
        for (String selector : new String[] {"0", "-1", "*", "'a'", "''"}) {
            queryFault("$[0,0,0,0,0,0,0,0," + selector + "]", 18);
            queryFault("$.a[0,0,0,0,0,0,0," + selector + "]", 18);
            queryFault("$.a.b.c.d.e.f[0,0," + selector + "]", 18);
        }
    }

    /** Where the ninth would begin, nothing else can stand either; what comes before it can. */
    private static void theNinthThatIsNone() {
        String eight = "$[0,0,0,0,0,0,0,0";
        queryFault(eight, 17);
        queryFault(eight + ",", 18);
        queryFault(eight + ",]", 18);
        queryFault(eight + "].", 19);
        queryFault(eight + "]..", 20);
        queryFault(eight + "]...", 20);
        queryFault(eight + "][", 19);
        queryFault(eight + "][]", 19);
        queryFault(eight + "]..[", 21);
        queryFault(eight + "]]", 18);
        queryFault(eight + "]x", 18);
    }
}
