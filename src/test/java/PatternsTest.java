import java.util.Random;
import java.util.regex.Matcher;
import java.util.regex.Pattern;

/**
 * "A text that must be of some form is AT FAULT at the place of the first character that can't stand there": both
 * forms as patterns, and a character can stand there if the pattern takes the text up to it, or could with more.
 */
public final class PatternsTest {
    private static final String BLANKS = "[ \\t\\n\\r]*";
    private static final String STRING = "\"(?:[ -\u00ff&&[^\"\\\\]]|\\\\[\"\\\\]){0,10}\"";
    private static final String BARE = "null|true|false|-?(?:0|[1-9][0-9]{0,5})|" + STRING;
    private static final String NAME = "[A-Za-z_][A-Za-z0-9_]{0,9}|\\*";
    private static final String SELECTOR = "(?:'[ -\u00ff&&[^'\\\\]]{0,10}'|\\*|0|-?[1-9][0-9]{0,2})";
    private static final String BRACKET = "\\[" + SELECTOR + "(?:," + SELECTOR + ")*\\]";
    private static final Pattern QUERY = Pattern.compile(
            "\\$(?:\\.(?:" + NAME + ")|" + BRACKET + "|\\.\\.(?:" + NAME + "|" + BRACKET + "))*");
    private static final Pattern VALUE = Pattern.compile(value(4));
    private static final int NO_FAULT = -1;

    private static final String[] QUERY_PIECES = {"$", ".", "..", "[", "]", ",", "'", "*", "-", "0", "1", "12", "1234", "a",
        "_b", "abcdefghi", "\\", " ", "\"", "\u00ff", "\u0100", "[*]", "['a']", ".a", "..*", "[-1]"};
    private static final String[] VALUE_PIECES = {"[", "]", "{", "}", ",", ":", "\"", "\\", "\\\"", "\\\\", "-", "0", "1",
        "99999", "null", "true", "false", "tr", " ", "\t", "\n", "\r", "a", "abcdefghi", "\u00ff", "\u0100", "\u001f",
        "\"\"", "\"b\":1", "[1,2]", "{}", "[[[", "]]]"};

    private final Trial t = new Trial("patterns");
    private final Random random = new Random(16);
    private int taken = 0;

    public static void main(String[] args) {
        PatternsTest test = new PatternsTest();
        test.shortTexts("$", "$.[],'*-01a\\", 4, QUERY);
        test.shortTexts("", "[]{},:\"\\-01n ", 4, VALUE);
        test.piecedTexts("$", QUERY_PIECES, QUERY);
        test.piecedTexts("", VALUE_PIECES, VALUE);
        test.t.due("some thousand texts are right", test.taken > 3000, true);
        Trial.end();
    }

    /** A value with up to so many around its innermost parts; a pattern can't know doubled names and a 25th value. */
    private static String value(int deep) {
        if (deep == 0) {
            return BLANKS + "(?:" + BARE + ")" + BLANKS;
        }
        String part = value(deep - 1);
        String member = BLANKS + STRING + BLANKS + ":" + part;
        return BLANKS + "(?:" + BARE + "|\\[" + chain(part) + "\\]|\\{" + chain(member) + "\\})" + BLANKS;
    }

    private static String chain(String link) {
        return "(?:" + BLANKS + "|" + link + "(?:," + link + ")*)";
    }

    private void shortTexts(String start, String characters, int most, Pattern form) {
        compare(start, form);
        for (int n = 0; most > 0 && n < characters.length(); n++) {
            shortTexts(start + characters.charAt(n), characters, most - 1, form);
        }
    }

    /** Of up to seven pieces, which make neither a ninth selector nor a 25th value. */
    private void piecedTexts(String start, String[] pieces, Pattern form) {
        for (int n = 0; n < 50000; n++) {
            StringBuilder text = new StringBuilder(start);
            for (int left = random.nextInt(8); left > 0; left--) {
                text.append(pieces[random.nextInt(pieces.length)]);
            }
            if (text.length() <= 80 && text.indexOf("\"b\":1") == text.lastIndexOf("\"b\":1")) {
                compare(text.toString(), form);
            }
        }
    }

    private void compare(String text, Pattern form) {
        int want = fault(text, form);
        if (want == NO_FAULT) {
            taken++;
        }
        PagedValues x = new PagedValues();
        for (int n = 0; n < text.length(); n++) {
            x.type(text.charAt(n));
        }
        int answer = form == QUERY ? x.query(-1, -1) : x.put(0);
        t.due("fault of " + text, answer <= -100 ? -100 - answer : NO_FAULT, want);
    }

    private static int fault(String text, Pattern form) {
        boolean right = false;
        for (int n = 0; n < text.length(); n++) {
            Matcher matcher = form.matcher(text).region(0, n + 1);
            right = matcher.matches();
            if (!right && !matcher.hitEnd()) {
                return n;
            }
        }
        return right ? NO_FAULT : text.length();
    }
}
