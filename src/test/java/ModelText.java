import java.util.ArrayDeque;
import java.util.ArrayList;
import java.util.Deque;
import java.util.LinkedHashMap;
import java.util.List;

/** The forms of values and queries, as machines that take one character after the other. */
final class ModelText {
    /** The selector *; the others are a String or an Integer. */
    static final Object EVERY = new Object();

    /** What a segment selects. */
    static final class Segment {
        boolean deep;
        final List<Object> selectors = new ArrayList<>();
    }

    private ModelText() {
    }

    static Object value(String text) throws Model.Answer {
        ValueMachine machine = new ValueMachine();
        for (int n = 0; n < text.length(); n++) {
            int fault = machine.feed(text.charAt(n), n);
            if (fault >= 0) {
                throw new Model.Answer(-100 - fault);
            }
        }
        // A blank ends a number that stands at the very end, and is no fault where a text may end.
        if (machine.inString() || machine.feed(' ', text.length()) >= 0 || !machine.state.equals("end")) {
            throw new Model.Answer(-100 - text.length());
        }
        return machine.whole;
    }

    static List<Segment> query(String text) throws Model.Answer {
        QueryMachine machine = new QueryMachine();
        for (int n = 0; n < text.length(); n++) {
            if (!machine.feed(text.charAt(n))) {
                throw new Model.Answer(-100 - n);
            }
        }
        if (!machine.state.equals("segment") && !machine.state.equals("name")) {
            throw new Model.Answer(-100 - text.length());
        }
        machine.endName();
        return machine.segments;
    }

    /** States: value, value or ], name, name or }, colon, behind (a part), end; string, escape, number, word. */
    private static final class ValueMachine {
        private String state = "value";
        private Object whole;
        private final Deque<Object> open = new ArrayDeque<>();
        private final Deque<String> names = new ArrayDeque<>();
        private int values = 0;
        private boolean isName;
        private int nameStart;
        private String word = "";

        boolean inString() {
            return state.equals("string") || state.equals("escape");
        }

        /** The place of a fault, or -1. */
        int feed(char c, int place) {
            if (state.equals("string")) {
                return string(c, place);
            }
            if (state.equals("escape")) {
                state = "string";
                word += c;
                return c == '"' || c == '\\' ? -1 : place;
            }
            if (state.equals("number")) {
                if (c >= '0' && c <= '9') {
                    word += c;
                    return word.matches("-?(0|[1-9][0-9]{0,5})") ? -1 : place;
                }
                if (word.equals("-")) {
                    return place;
                }
                complete(Integer.valueOf(word));
            }
            if (state.startsWith("word ")) {
                return word(c, place);
            }
            if (c == ' ' || c == '\t' || c == '\n' || c == '\r') {
                return -1;
            }
            return sign(c, place) ? -1 : place;
        }

        private int string(char c, int place) {
            if (c == '"') {
                if (!isName) {
                    complete(word);
                    return -1;
                }
                if (Model.map(open.peek()).containsKey(word)) {
                    return nameStart;
                }
                names.push(word);
                state = "colon";
                return -1;
            }
            if (word.length() == 10 || c < 32 || c > 255) {
                return place;
            }
            if (c == '\\') {
                state = "escape";
            } else {
                word += c;
            }
            return -1;
        }

        private int word(char c, int place) {
            String left = state.substring(5);
            if (left.charAt(0) != c) {
                return place;
            }
            state = "word " + left.substring(1);
            if (left.length() == 1) {
                complete(word.equals("n") ? Model.NULL : (Object) word.equals("t"));
            }
            return -1;
        }

        private boolean sign(char c, int place) {
            switch (state) {
                case "value or ]":
                    return c == ']' ? closed() : begins(c);
                case "value":
                    return begins(c);
                case "name or }":
                    return c == '}' ? closed() : beginsName(c, place);
                case "name":
                    return beginsName(c, place);
                case "colon":
                    state = "value";
                    return c == ':';
                case "behind":
                    boolean list = Model.list(open.peek()) != null;
                    if (c == ',') {
                        state = list ? "value" : "name";
                        return true;
                    }
                    return c == (list ? ']' : '}') && closed();
                default:
                    return false;
            }
        }

        private boolean beginsName(char c, int place) {
            isName = true;
            nameStart = place;
            word = "";
            state = "string";
            return c == '"';
        }

        private boolean begins(char c) {
            values++;
            if (values > 24) {
                return false;
            }
            word = "";
            if (c == '"') {
                isName = false;
                state = "string";
                return true;
            }
            if (c == '[' || c == '{') {
                open.push(c == '[' ? new ArrayList<Object>() : new LinkedHashMap<String, Object>());
                state = c == '[' ? "value or ]" : "name or }";
                return open.size() <= 4;
            }
            word += c;
            state = c == 'n' ? "word ull" : c == 't' ? "word rue" : c == 'f' ? "word alse" : "number";
            return "ntf-0123456789".indexOf(c) >= 0;
        }

        private boolean closed() {
            complete(open.pop());
            return true;
        }

        private void complete(Object value) {
            if (open.isEmpty()) {
                whole = value;
                state = "end";
                return;
            }
            if (Model.list(open.peek()) != null) {
                Model.list(open.peek()).add(value);
            } else {
                Model.map(open.peek()).put(names.pop(), value);
            }
            state = "behind";
        }
    }

    /** States: start, segment, dot, dots, name, selector, string, number, behind (a selector). */
    private static final class QueryMachine {
        private String state = "start";
        private final List<Segment> segments = new ArrayList<>();
        private int selectors = 0;
        private String word = "";

        boolean feed(char c) {
            switch (state) {
                case "start":
                    state = "segment";
                    return c == '$';
                case "name":
                    if (("" + c).matches("[a-zA-Z0-9_]")) {
                        word += c;
                        return word.length() <= 10;
                    }
                    endName();
                    return segment(c);
                case "segment":
                    return segment(c);
                case "dot":
                    if (c == '.') {
                        last().deep = true;
                        state = "dots";
                        return true;
                    }
                    return dotted(c);
                case "dots":
                    if (c == '[') {
                        state = "selector";
                        return true;
                    }
                    return dotted(c);
                case "selector":
                    return selector(c);
                case "string":
                    return string(c);
                case "number":
                    word += c;
                    if (word.matches("-|0|-?[1-9][0-9]{0,2}")) {
                        return true;
                    }
                    word = word.substring(0, word.length() - 1);
                    if (word.equals("-")) {
                        return false;
                    }
                    last().selectors.add(Integer.valueOf(word));
                    return behind(c);
                default:
                    return behind(c);
            }
        }

        void endName() {
            if (state.equals("name")) {
                last().selectors.add(word);
                state = "segment";
            }
        }

        private Segment last() {
            return segments.get(segments.size() - 1);
        }

        private boolean segment(char c) {
            segments.add(new Segment());
            state = c == '.' ? "dot" : "selector";
            return c == '.' || c == '[';
        }

        private boolean dotted(char c) {
            selectors++;
            if (c == '*') {
                last().selectors.add(EVERY);
                state = "segment";
            } else {
                word = "" + c;
                state = "name";
            }
            return selectors <= 8 && ("" + c).matches("[a-zA-Z_*]");
        }

        private boolean selector(char c) {
            selectors++;
            word = c == '\'' ? "" : "" + c;
            state = c == '\'' ? "string" : c == '*' ? "behind" : "number";
            if (c == '*') {
                last().selectors.add(EVERY);
            }
            return selectors <= 8 && "'*-0123456789".indexOf(c) >= 0;
        }

        private boolean string(char c) {
            if (c == '\'') {
                last().selectors.add(word);
                state = "behind";
                return true;
            }
            word += c;
            return c != '\\' && c >= 32 && c <= 255 && word.length() <= 10;
        }

        private boolean behind(char c) {
            state = c == ',' ? "selector" : "segment";
            return c == ',' || c == ']';
        }
    }
}
