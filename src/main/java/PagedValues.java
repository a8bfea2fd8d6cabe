/** Keeps small documents of nested values in pages; ../shared/DOC.md says what each call must do. */
public final class PagedValues {
    public static final int DOWN = -9;
    public static final int BAD = -1;
    public static final int FULL = -2;
    public static final int MALFORMED = -3;
    public static final int TOO_BIG = -5;
    public static final int TOO_MANY = -6;

    private static final int AT_FAULT = -100;
    private static final int FAILED = -10;
    private static final int DONE = 0;
    private static final int NONE = -1;
    private static final int CURRENT = -1;
    private static final int ALL = -1;

    private static final int IDS = 8;
    private static final int HALVES = 2;
    private static final int HALF = 4;
    private static final int PAGES = 12;
    private static final int METAS = 2;
    private static final int READERS = 3;
    private static final int LONGEST_FUSE = 20;
    private static final int FREE = 0;
    private static final int ROOT = 1;
    private static final int LEAF = 2;

    private static final int LONGEST_TEXT = 80;
    private static final int LONGEST_STRING = 10;
    private static final int LOWEST_CHARACTER = 32;
    private static final int HIGHEST_CHARACTER = 255;
    private static final int NUMBER_DIGITS = 6;
    private static final int MOST_VALUES = 24;
    private static final int DEEPEST = 4;
    // An operation can put a value of depth 4 within four others before its outcome is measured.
    private static final int DEEPEST_UNMEASURED = 8;

    private static final int INDEX_DIGITS = 3;
    private static final int MOST_SELECTORS = 8;
    private static final int MOST_NODES = 32;
    private static final int BY_NAME = 0;
    private static final int BY_NUMBER = 1;
    private static final int EVERY = 2;

    private final Text text = new Text();
    private final ValueParser parser = new ValueParser();
    private final Patcher patcher = new Patcher();
    private final Query asked = new Query();
    private final Finder finder = new Finder();
    private final Store store = new Store();
    private final StringBuilder written = new StringBuilder();

    public PagedValues() {
    }

    public int type(char c) {
        if (store.stopped) {
            return DOWN;
        }
        return text.add(c) ? text.length : BAD;
    }

    public int put(int id) {
        if (store.stopped) {
            return DOWN;
        }
        if (!isId(id)) {
            return BAD;
        }
        Value value = parser.parse(text);
        text.clear();
        if (value == null) {
            return AT_FAULT - text.fault;
        }
        int outcome = change(id, value);
        return outcome == DONE ? Value.sizeOf(value, 0) : outcome;
    }

    public int patch(int id) {
        if (store.stopped) {
            return DOWN;
        }
        Value document = store.document(store.currentRoot(), id);
        if (document == null) {
            return BAD;
        }
        Value list = parser.parse(text);
        text.clear();
        if (list == null) {
            return AT_FAULT - text.fault;
        }
        int outcome = patcher.apply(list, document);
        if (outcome == DONE) {
            outcome = change(id, patcher.document);
        }
        return outcome == DONE ? Value.sizeOf(patcher.document, 0) : outcome;
    }

    public int remove(int id) {
        if (store.stopped) {
            return DOWN;
        }
        if (store.document(store.currentRoot(), id) == null) {
            return BAD;
        }
        int outcome = change(id, null);
        return outcome == DONE ? store.documentCount() : outcome;
    }

    public int query(int r, int id) {
        if (store.stopped) {
            return DOWN;
        }
        if (!store.canRead(r)) {
            return BAD;
        }
        int root = store.rootFor(r);
        if (id != ALL && store.document(root, id) == null) {
            return BAD;
        }
        asked.parse(text);
        text.clear();
        finder.forget();
        if (!text.isRight()) {
            return AT_FAULT - text.fault;
        }
        for (int n = 0; n < IDS; n++) {
            if (id == ALL || id == n) {
                finder.ask(asked, store.document(root, n), n);
            }
        }
        return finder.total();
    }

    public int result(int i) {
        return finder.has(i) ? finder.ids[i] : BAD;
    }

    public int show(int i) {
        return finder.has(i) ? writeInstead(finder.results[i]) : BAD;
    }

    public int print(int r, int id) {
        if (store.stopped) {
            return DOWN;
        }
        Value document = store.canRead(r) ? store.document(store.rootFor(r), id) : null;
        return document == null ? BAD : writeInstead(document);
    }

    public int output(int p) {
        return p >= 0 && p < written.length() ? written.charAt(p) : BAD;
    }

    public int open() {
        return store.stopped ? DOWN : store.openReader();
    }

    public boolean close(int r) {
        return !store.stopped && store.closeReader(r);
    }

    public boolean fuse(int k) {
        if (store.stopped || k < 1 || k > LONGEST_FUSE) {
            return false;
        }
        store.blocksLeft = k;
        return true;
    }

    public boolean restart() {
        boolean was = store.stopped;
        store.stopped = false;
        return was;
    }

    public int page(int n) {
        return n >= 0 && n < PAGES ? store.useOf(n) : BAD;
    }

    public int size(int what) {
        switch (what) {
            case 0:
                return text.length;
            case 1:
                return store.documentCount();
            case 2:
                return store.openReaders();
            case 3:
                return store.blocks;
            case 4:
                return store.currentMeta();
            case 5:
                return store.metaNumber[store.currentMeta()];
            case 6:
                return store.stopped ? 1 : 0;
            default:
                return BAD;
        }
    }

    private static boolean isId(int id) {
        return id >= 0 && id < IDS;
    }

    /** A stop loses what was typed; only remove() comes here with a text that is not empty yet. */
    private int change(int id, Value value) {
        int outcome = store.change(id, value);
        if (store.stopped) {
            text.clear();
        }
        return outcome;
    }

    private int writeInstead(Value value) {
        written.setLength(0);
        Value.write(value, written, 0);
        return written.length();
    }

    private enum Kind {
        NULL, TRUE, FALSE, NUMBER, STRING, ARRAY, OBJECT
    }

    /**
     * A value with its parts as a chain. Documents share values with older pages and with results, so a
     * value changes only while it is being parsed, or belongs to the copy that operations work on.
     */
    private static final class Value {
        private final Kind kind;
        private final int number;
        private final String characters;
        private String name = "";
        private Value first;
        private Value next;

        Value(Kind kind, int number, String characters) {
            this.kind = kind;
            this.number = number;
            this.characters = characters;
        }

        Value member(String wanted) {
            if (kind != Kind.OBJECT) {
                return null;
            }
            for (Value part = first; part != null; part = part.next) {
                if (part.name.equals(wanted)) {
                    return part;
                }
            }
            return null;
        }

        Value element(int wanted) {
            if (kind != Kind.ARRAY) {
                return null;
            }
            int n = 0;
            for (Value part = first; part != null; part = part.next) {
                if (n == wanted) {
                    return part;
                }
                n++;
            }
            return null;
        }

        int partCount() {
            int n = 0;
            for (Value part = first; part != null; part = part.next) {
                n++;
            }
            return n;
        }

        void insert(int at, Value part) {
            if (at <= 0 || first == null) {
                part.next = first;
                first = part;
                return;
            }
            Value before = first;
            for (int n = 1; n < at && before.next != null; n++) {
                before = before.next;
            }
            part.next = before.next;
            before.next = part;
        }

        void append(Value part) {
            insert(partCount(), part);
        }

        void drop(Value old) {
            relink(old, old.next);
        }

        void swap(Value old, Value part) {
            part.name = old.name;
            part.next = old.next;
            relink(old, part);
        }

        private void relink(Value old, Value instead) {
            if (first == old) {
                first = instead;
                return;
            }
            for (Value part = first; part != null; part = part.next) {
                if (part.next == old) {
                    part.next = instead;
                    return;
                }
            }
        }

        private static int sizeOf(Value value, int around) {
            int sum = 1;
            if (around < DEEPEST_UNMEASURED) {
                for (Value part = value.first; part != null; part = part.next) {
                    sum += sizeOf(part, around + 1);
                }
            }
            return sum;
        }

        private static int depthOf(Value value, int around) {
            if (value.kind != Kind.ARRAY && value.kind != Kind.OBJECT) {
                return 0;
            }
            int deepest = 0;
            if (around < DEEPEST_UNMEASURED) {
                for (Value part = value.first; part != null; part = part.next) {
                    deepest = Math.max(deepest, depthOf(part, around + 1));
                }
            }
            return deepest + 1;
        }

        /** The copy is no part of anything: it has neither a name nor a next part. */
        private static Value copyOf(Value value, int around) {
            Value copy = new Value(value.kind, value.number, value.characters);
            Value last = null;
            if (around < DEEPEST_UNMEASURED) {
                for (Value part = value.first; part != null; part = part.next) {
                    Value twin = copyOf(part, around + 1);
                    twin.name = part.name;
                    if (last == null) {
                        copy.first = twin;
                    } else {
                        last.next = twin;
                    }
                    last = twin;
                }
            }
            return copy;
        }

        private static void write(Value value, StringBuilder to, int around) {
            switch (value.kind) {
                case NULL:
                    to.append("null");
                    break;
                case TRUE:
                    to.append("true");
                    break;
                case FALSE:
                    to.append("false");
                    break;
                case NUMBER:
                    to.append(value.number);
                    break;
                case STRING:
                    writeString(value.characters, to);
                    break;
                case ARRAY:
                    to.append('[');
                    writeParts(value, to, around);
                    to.append(']');
                    break;
                default:
                    to.append('{');
                    writeParts(value, to, around);
                    to.append('}');
                    break;
            }
        }

        private static void writeParts(Value whole, StringBuilder to, int around) {
            if (around >= DEEPEST_UNMEASURED) {
                return;
            }
            for (Value part = whole.first; part != null; part = part.next) {
                if (part != whole.first) {
                    to.append(',');
                }
                if (whole.kind == Kind.OBJECT) {
                    writeString(part.name, to);
                    to.append(':');
                }
                write(part, to, around + 1);
            }
        }

        private static void writeString(String characters, StringBuilder to) {
            to.append('"');
            for (int n = 0; n < characters.length(); n++) {
                char c = characters.charAt(n);
                if (c == '"' || c == '\\') {
                    to.append('\\');
                }
                to.append(c);
            }
            to.append('"');
        }
    }

    /** The typed text, the place up to which it has been gone through, and the first fault there. */
    private static final class Text {
        private static final int END = -1;

        private final char[] typed = new char[LONGEST_TEXT];
        private final StringBuilder word = new StringBuilder();
        private int length;
        private int place;
        private int fault = NONE;

        boolean add(char c) {
            if (length >= LONGEST_TEXT) {
                return false;
            }
            typed[length] = c;
            length++;
            return true;
        }

        /** The fault stays, for the answer of the call that empties the text. */
        void clear() {
            length = 0;
        }

        void begin() {
            place = 0;
            fault = NONE;
        }

        boolean isRight() {
            return fault == NONE;
        }

        boolean atEnd() {
            return place >= length;
        }

        void failAt(int where) {
            if (fault == NONE) {
                fault = where;
            }
        }

        void fail() {
            if (fault == NONE) {
                fault = place;
            }
        }

        int ahead() {
            return place < length ? typed[place] : END;
        }

        boolean take(char c) {
            if (place >= length || typed[place] != c) {
                return false;
            }
            place++;
            return true;
        }

        boolean need(char c) {
            boolean taken = take(c);
            if (!taken) {
                fail();
            }
            return taken;
        }

        void skipBlanks() {
            while (place < length && isBlank(ahead())) {
                place++;
            }
        }

        /** Digits that the number can't have are left for what comes next, where no digit can stand. */
        int digits(int most) {
            if (!isDigit(ahead())) {
                fail();
                return 0;
            }
            if (take('0')) {
                return 0;
            }
            int number = 0;
            for (int n = 0; n < most && isDigit(ahead()); n++) {
                number = number * 10 + (ahead() - '0');
                place++;
            }
            return number;
        }

        /** Letters behind the tenth are left, like the digits above. */
        String plainName() {
            word.setLength(0);
            for (int n = 0; n < LONGEST_STRING && isNameCharacter(ahead()); n++) {
                word.append((char) ahead());
                place++;
            }
            return word.toString();
        }

        /** What is answered for a string at fault is of no use. */
        String quoted(char quote, boolean escapes) {
            word.setLength(0);
            if (!need(quote)) {
                return "";
            }
            for (int n = 0; n <= LONGEST_STRING; n++) {
                if (take(quote)) {
                    return word.toString();
                }
                if (n == LONGEST_STRING || !takeCharacter(quote, escapes)) {
                    break;
                }
            }
            fail();
            return "";
        }

        private boolean takeCharacter(char quote, boolean escapes) {
            int c = ahead();
            if (c == '\\') {
                if (!escapes) {
                    return false;
                }
                place++;
                c = ahead();
                if (c != quote && c != '\\') {
                    return false;
                }
            }
            if (c < LOWEST_CHARACTER || c > HIGHEST_CHARACTER) {
                return false;
            }
            word.append((char) c);
            place++;
            return true;
        }

        static boolean isBlank(int c) {
            return c == 32 || c == 9 || c == 10 || c == 13;
        }

        static boolean isDigit(int c) {
            return c >= '0' && c <= '9';
        }

        static boolean isNameStart(int c) {
            return (c >= 'a' && c <= 'z') || (c >= 'A' && c <= 'Z') || c == '_';
        }

        static boolean isNameCharacter(int c) {
            return isNameStart(c) || isDigit(c);
        }
    }

    /** Makes a value of a text. Its methods answer null when the text is at fault. */
    private static final class ValueParser {
        private int values;

        Value parse(Text text) {
            values = 0;
            text.begin();
            Value whole = value(text, 0);
            text.skipBlanks();
            if (!text.atEnd()) {
                text.fail();
            }
            return text.isRight() ? whole : null;
        }

        private Value value(Text text, int around) {
            text.skipBlanks();
            if (values >= MOST_VALUES) {
                text.fail();
                return null;
            }
            values++;
            switch (text.ahead()) {
                case '[':
                    return container(text, around, Kind.ARRAY);
                case '{':
                    return container(text, around, Kind.OBJECT);
                case '"':
                    return string(text);
                case 'n':
                    return word(text, "null", Kind.NULL);
                case 't':
                    return word(text, "true", Kind.TRUE);
                case 'f':
                    return word(text, "false", Kind.FALSE);
                default:
                    return number(text);
            }
        }

        private Value container(Text text, int around, Kind kind) {
            if (around >= DEEPEST) {
                text.fail();
                return null;
            }
            char closing = kind == Kind.ARRAY ? ']' : '}';
            Value whole = new Value(kind, 0, "");
            text.need(kind == Kind.ARRAY ? '[' : '{');
            text.skipBlanks();
            if (text.take(closing)) {
                return whole;
            }
            for (int n = 0; n < MOST_VALUES; n++) {
                Value part = kind == Kind.ARRAY ? value(text, around + 1) : member(text, around + 1, whole);
                if (part == null) {
                    return null;
                }
                whole.append(part);
                text.skipBlanks();
                if (text.take(closing)) {
                    return whole;
                }
                if (!text.need(',')) {
                    return null;
                }
            }
            text.fail();
            return null;
        }

        private Value member(Text text, int around, Value object) {
            text.skipBlanks();
            int start = text.place;
            String name = text.quoted('"', true);
            if (!text.isRight()) {
                return null;
            }
            if (object.member(name) != null) {
                text.failAt(start);
                return null;
            }
            text.skipBlanks();
            if (!text.need(':')) {
                return null;
            }
            Value value = value(text, around);
            if (value != null) {
                value.name = name;
            }
            return value;
        }

        private Value string(Text text) {
            String characters = text.quoted('"', true);
            return text.isRight() ? new Value(Kind.STRING, 0, characters) : null;
        }

        private Value word(Text text, String letters, Kind kind) {
            for (int n = 0; n < letters.length(); n++) {
                if (!text.need(letters.charAt(n))) {
                    return null;
                }
            }
            return new Value(kind, 0, "");
        }

        private Value number(Text text) {
            boolean below = text.take('-');
            int number = text.digits(NUMBER_DIGITS);
            return text.isRight() ? new Value(Kind.NUMBER, below ? -number : number, "") : null;
        }
    }

    /** Goes along strings that are pointers. */
    private static final class Pointer {
        private final StringBuilder word = new StringBuilder();

        static boolean isPointer(String path) {
            if (path.isEmpty()) {
                return true;
            }
            if (path.charAt(0) != '/') {
                return false;
            }
            for (int n = 0; n < path.length(); n++) {
                if (path.charAt(n) == '~' && !isEscape(path, n)) {
                    return false;
                }
            }
            return true;
        }

        private static boolean isEscape(String path, int tilde) {
            if (tilde + 1 >= path.length()) {
                return false;
            }
            char c = path.charAt(tilde + 1);
            return c == '0' || c == '1';
        }

        /** The slash before the last token of a path that is not empty. */
        static int lastSlash(String path) {
            int slash = 0;
            for (int n = 0; n < path.length(); n++) {
                if (path.charAt(n) == '/') {
                    slash = n;
                }
            }
            return slash;
        }

        /** Where the path up to the end leads from the document; null if nowhere. */
        Value lead(Value document, String path, int end) {
            Value at = document;
            int start = 1;
            for (int n = 1; n <= end && at != null; n++) {
                if (n == end || path.charAt(n) == '/') {
                    String token = token(path, start, n);
                    at = at.kind == Kind.OBJECT ? at.member(token) : at.element(index(token));
                    start = n + 1;
                }
            }
            return at;
        }

        String token(String path, int start, int end) {
            word.setLength(0);
            boolean escaped = false;
            for (int n = start; n < end; n++) {
                char c = path.charAt(n);
                if (escaped) {
                    word.append(c == '0' ? '~' : '/');
                    escaped = false;
                } else if (c == '~') {
                    escaped = true;
                } else {
                    word.append(c);
                }
            }
            return word.toString();
        }

        /** NONE if the token is no number; beside its slash no path has room for one beyond an int. */
        static int index(String token) {
            int length = token.length();
            if (length == 0 || length >= LONGEST_STRING || (length > 1 && token.charAt(0) == '0')) {
                return NONE;
            }
            int number = 0;
            for (int n = 0; n < length; n++) {
                char c = token.charAt(n);
                if (!Text.isDigit(c)) {
                    return NONE;
                }
                number = number * 10 + (c - '0');
            }
            return number;
        }
    }

    /** Does lists of operations on a copy of a document. */
    private static final class Patcher {
        private final Pointer pointer = new Pointer();
        private Value document;

        /** DONE with the outcome in document; otherwise MALFORMED, FAILED - i or TOO_BIG. */
        int apply(Value list, Value original) {
            if (!isList(list)) {
                return MALFORMED;
            }
            document = Value.copyOf(original, 0);
            int i = 0;
            for (Value operation = list.first; operation != null; operation = operation.next) {
                if (!perform(operation)) {
                    return FAILED - i;
                }
                if (Value.sizeOf(document, 0) > MOST_VALUES || Value.depthOf(document, 0) > DEEPEST) {
                    return TOO_BIG;
                }
                i++;
            }
            return DONE;
        }

        private static boolean isList(Value list) {
            if (list.kind != Kind.ARRAY) {
                return false;
            }
            for (Value operation = list.first; operation != null; operation = operation.next) {
                if (!isOperation(operation)) {
                    return false;
                }
            }
            return true;
        }

        private static boolean isOperation(Value operation) {
            if (!hasString(operation, "op") || !hasString(operation, "path")) {
                return false;
            }
            String op = stringOf(operation, "op");
            if (op.equals("add") || op.equals("replace")) {
                return operation.member("value") != null;
            }
            if (op.equals("copy")) {
                return hasString(operation, "from");
            }
            return op.equals("remove");
        }

        private static boolean hasString(Value operation, String name) {
            Value member = operation.member(name);
            return member != null && member.kind == Kind.STRING;
        }

        private static String stringOf(Value operation, String name) {
            Value member = operation.member(name);
            return member == null ? "" : member.characters;
        }

        /** False if the operation fails. */
        private boolean perform(Value operation) {
            String op = stringOf(operation, "op");
            String path = stringOf(operation, "path");
            if (!Pointer.isPointer(path)) {
                return false;
            }
            if (op.equals("remove")) {
                return !path.isEmpty() && exchange(path, null);
            }
            Value source = op.equals("copy") ? copySource(stringOf(operation, "from")) : operation.member("value");
            if (source == null) {
                return false;
            }
            Value value = Value.copyOf(source, 0);
            return op.equals("replace") ? exchange(path, value) : add(path, value);
        }

        private Value copySource(String from) {
            return Pointer.isPointer(from) ? pointer.lead(document, from, from.length()) : null;
        }

        private boolean add(String path, Value value) {
            if (path.isEmpty()) {
                document = value;
                return true;
            }
            int slash = Pointer.lastSlash(path);
            Value parent = pointer.lead(document, path, slash);
            if (parent == null) {
                return false;
            }
            String token = pointer.token(path, slash + 1, path.length());
            if (parent.kind == Kind.OBJECT) {
                addMember(parent, token, value);
                return true;
            }
            return parent.kind == Kind.ARRAY && addElement(parent, token, value);
        }

        private static void addMember(Value object, String name, Value value) {
            Value old = object.member(name);
            if (old != null) {
                object.swap(old, value);
                return;
            }
            value.name = name;
            object.append(value);
        }

        private static boolean addElement(Value array, String token, Value value) {
            int length = array.partCount();
            int at = token.equals("-") ? length : Pointer.index(token);
            if (at < 0 || at > length) {
                return false;
            }
            array.insert(at, value);
            return true;
        }

        /** Null as value takes away what is there. */
        private boolean exchange(String path, Value value) {
            if (path.isEmpty()) {
                document = value;
                return true;
            }
            Value parent = pointer.lead(document, path, Pointer.lastSlash(path));
            Value old = pointer.lead(document, path, path.length());
            if (parent == null || old == null) {
                return false;
            }
            if (value == null) {
                parent.drop(old);
            } else {
                parent.swap(old, value);
            }
            return true;
        }
    }

    /** One selector of a query; the first one of a segment opens it. */
    private static final class Selector {
        private boolean opens;
        private boolean deep;
        private int pick;
        private String name = "";
        private int number;
    }

    /** A query as its selectors in a row, made of a text. */
    private static final class Query {
        private final Selector[] selectors = new Selector[MOST_SELECTORS];
        private int count;

        Query() {
            for (int n = 0; n < MOST_SELECTORS; n++) {
                selectors[n] = new Selector();
            }
        }

        void parse(Text text) {
            count = 0;
            text.begin();
            text.need('$');
            // A segment has a selector at least, so the ninth one is at fault.
            for (int n = 0; n <= MOST_SELECTORS && text.isRight() && !text.atEnd(); n++) {
                segment(text);
            }
        }

        private void segment(Text text) {
            boolean dotted = text.take('.');
            boolean deep = dotted && text.take('.');
            if (dotted && !(deep && text.ahead() == '[')) {
                dottedSelector(text, deep);
            } else {
                bracket(text, deep);
            }
        }

        private void dottedSelector(Text text, boolean deep) {
            int c = text.ahead();
            if (count >= MOST_SELECTORS || (c != '*' && !Text.isNameStart(c))) {
                text.fail();
                return;
            }
            Selector selector = nextSelector(true, deep);
            if (text.take('*')) {
                selector.pick = EVERY;
            } else {
                selector.pick = BY_NAME;
                selector.name = text.plainName();
            }
        }

        private void bracket(Text text, boolean deep) {
            text.need('[');
            for (int n = 0; n <= MOST_SELECTORS && text.isRight(); n++) {
                bracketSelector(text, n == 0, deep);
                if (!text.isRight() || text.take(']')) {
                    return;
                }
                text.need(',');
            }
        }

        private void bracketSelector(Text text, boolean opens, boolean deep) {
            if (count >= MOST_SELECTORS) {
                text.fail();
                return;
            }
            Selector selector = nextSelector(opens, deep);
            if (text.take('*')) {
                selector.pick = EVERY;
            } else if (text.ahead() == '\'') {
                selector.pick = BY_NAME;
                selector.name = text.quoted('\'', false);
            } else {
                selector.pick = BY_NUMBER;
                selector.number = number(text);
            }
        }

        private static int number(Text text) {
            boolean below = text.take('-');
            if (below && text.ahead() == '0') {
                text.fail();
            }
            int number = text.digits(INDEX_DIGITS);
            return below ? -number : number;
        }

        private Selector nextSelector(boolean opens, boolean deep) {
            Selector selector = selectors[count];
            count++;
            selector.opens = opens;
            selector.deep = deep;
            return selector;
        }

        /** Behind the last selector of the segment that the selector at start opens. */
        int segmentEnd(int start) {
            int end = start + 1;
            while (end < count && !selectors[end].opens) {
                end++;
            }
            return end;
        }
    }

    /** Walks over documents by a query, and keeps the results until the next one. */
    private static final class Finder {
        private final Value[] results = new Value[MOST_NODES];
        private final int[] ids = new int[MOST_NODES];
        private final Value[] row = new Value[MOST_NODES];
        private final Value[] nextRow = new Value[MOST_NODES];
        private int count;
        private int rowCount;
        private int nextCount;
        private boolean tooMany;

        void forget() {
            count = 0;
            tooMany = false;
        }

        boolean has(int i) {
            return i >= 0 && i < count;
        }

        /** How many results there are; too many are none. */
        int total() {
            if (!tooMany) {
                return count;
            }
            count = 0;
            return TOO_MANY;
        }

        void ask(Query query, Value document, int id) {
            if (document == null) {
                return;
            }
            row[0] = document;
            rowCount = 1;
            for (int n = 0; n < query.count && !tooMany; n++) {
                if (query.selectors[n].opens) {
                    walk(query, n, query.segmentEnd(n));
                }
            }
            for (int n = 0; n < rowCount && !tooMany; n++) {
                keep(row[n], id);
            }
        }

        private void keep(Value node, int id) {
            if (count >= MOST_NODES) {
                tooMany = true;
                return;
            }
            results[count] = node;
            ids[count] = id;
            count++;
        }

        private void walk(Query query, int start, int end) {
            boolean deep = query.selectors[start].deep;
            nextCount = 0;
            for (int n = 0; n < rowCount && !tooMany; n++) {
                visit(query, start, end, row[n]);
                if (deep) {
                    visitParts(query, start, end, row[n], 0);
                }
            }
            for (int n = 0; n < nextCount; n++) {
                row[n] = nextRow[n];
            }
            rowCount = nextCount;
        }

        private void visit(Query query, int start, int end, Value node) {
            for (int n = start; n < end; n++) {
                select(query.selectors[n], node);
            }
        }

        private void visitParts(Query query, int start, int end, Value node, int around) {
            if (around >= DEEPEST) {
                return;
            }
            for (Value part = node.first; part != null && !tooMany; part = part.next) {
                visit(query, start, end, part);
                visitParts(query, start, end, part, around + 1);
            }
        }

        private void select(Selector selector, Value node) {
            if (selector.pick == BY_NAME) {
                take(node.member(selector.name));
            } else if (selector.pick == BY_NUMBER) {
                int n = selector.number;
                take(node.element(n < 0 ? n + node.partCount() : n));
            } else {
                for (Value part = node.first; part != null; part = part.next) {
                    take(part);
                }
            }
        }

        private void take(Value node) {
            if (node == null) {
                return;
            }
            if (nextCount >= MOST_NODES) {
                tooMany = true;
                return;
            }
            nextRow[nextCount] = node;
            nextCount++;
        }
    }

    /** A page is read as a leaf or as a root, as the one that leads to it takes it. */
    private static final class Page {
        private final Value[] documents = new Value[HALF];
        private final int[] leaves = new int[HALVES];
    }

    /** The pages, metas and readers, and the machine that writes them. */
    private static final class Store {
        private final Page[] pages = new Page[PAGES];
        private final int[] metaNumber = new int[METAS];
        private final int[] metaRoot = new int[METAS];
        private final boolean[] readerOpen = new boolean[READERS];
        private final int[] readerRoot = new int[READERS];
        private final Value[] draft = new Value[HALF];
        private int blocks;
        private int blocksLeft;
        private boolean stopped;

        Store() {
            for (int n = 0; n < PAGES; n++) {
                pages[n] = new Page();
            }
            for (int n = 0; n < METAS; n++) {
                metaRoot[n] = NONE;
            }
        }

        int currentMeta() {
            return metaNumber[1] > metaNumber[0] ? 1 : 0;
        }

        int currentRoot() {
            return metaRoot[currentMeta()];
        }

        boolean isOpen(int r) {
            return r >= 0 && r < READERS && readerOpen[r];
        }

        boolean canRead(int r) {
            return r == CURRENT || isOpen(r);
        }

        int rootFor(int r) {
            return isOpen(r) ? readerRoot[r] : currentRoot();
        }

        int openReader() {
            for (int r = 0; r < READERS; r++) {
                if (!readerOpen[r]) {
                    readerOpen[r] = true;
                    readerRoot[r] = currentRoot();
                    return r;
                }
            }
            return BAD;
        }

        boolean closeReader(int r) {
            if (!isOpen(r)) {
                return false;
            }
            readerOpen[r] = false;
            return true;
        }

        int openReaders() {
            int n = 0;
            for (int r = 0; r < READERS; r++) {
                n += readerOpen[r] ? 1 : 0;
            }
            return n;
        }

        private int leafOf(int root, int half) {
            return root == NONE ? NONE : pages[root].leaves[half];
        }

        Value document(int root, int id) {
            if (!isId(id)) {
                return null;
            }
            int leaf = leafOf(root, id / HALF);
            return leaf == NONE ? null : pages[leaf].documents[id % HALF];
        }

        int documentCount() {
            int n = 0;
            for (int id = 0; id < IDS; id++) {
                n += document(currentRoot(), id) == null ? 0 : 1;
            }
            return n;
        }

        int useOf(int page) {
            int use = FREE;
            for (int n = 0; n < METAS; n++) {
                use = Math.max(use, useUnder(metaRoot[n], page));
            }
            for (int r = 0; r < READERS; r++) {
                if (readerOpen[r]) {
                    use = Math.max(use, useUnder(readerRoot[r], page));
                }
            }
            return use;
        }

        private int useUnder(int root, int page) {
            if (root == page) {
                return ROOT;
            }
            return leafOf(root, 0) == page || leafOf(root, 1) == page ? LEAF : FREE;
        }

        private int freeFrom(int start) {
            for (int n = start; n < PAGES; n++) {
                if (useOf(n) == FREE) {
                    return n;
                }
            }
            return NONE;
        }

        /** Null as value takes the document away. DONE, FULL before anything is written, or DOWN. */
        int change(int id, Value value) {
            int half = id / HALF;
            int otherLeaf = leafOf(currentRoot(), 1 - half);
            boolean needsLeaf = draftHalf(half, id, value);
            boolean needsRoot = needsLeaf || otherLeaf != NONE;
            int leaf = needsLeaf ? freeFrom(0) : NONE;
            int root = needsRoot ? freeFrom(leaf + 1) : NONE;
            if ((needsLeaf && leaf == NONE) || (needsRoot && root == NONE)) {
                return FULL;
            }
            if (needsLeaf) {
                writeLeaf(leaf);
            }
            if (needsRoot && !stopped) {
                writeRoot(root, half, leaf, otherLeaf);
            }
            if (!stopped) {
                writeMeta(root);
            }
            return stopped ? DOWN : DONE;
        }

        /** Whether the half has documents then. */
        private boolean draftHalf(int half, int id, Value value) {
            boolean any = false;
            for (int n = 0; n < HALF; n++) {
                int each = half * HALF + n;
                draft[n] = each == id ? value : document(currentRoot(), each);
                any = any || draft[n] != null;
            }
            return any;
        }

        private void writeLeaf(int leaf) {
            for (int n = 0; n < HALF; n++) {
                pages[leaf].documents[n] = draft[n];
            }
            countBlock();
        }

        private void writeRoot(int root, int half, int leaf, int otherLeaf) {
            pages[root].leaves[half] = leaf;
            pages[root].leaves[1 - half] = otherLeaf;
            countBlock();
        }

        private void writeMeta(int root) {
            int current = currentMeta();
            metaRoot[1 - current] = root;
            metaNumber[1 - current] = metaNumber[current] + 1;
            countBlock();
        }

        private void countBlock() {
            blocks++;
            if (blocksLeft > 0) {
                blocksLeft--;
                if (blocksLeft == 0) {
                    stop();
                }
            }
        }

        private void stop() {
            stopped = true;
            for (int r = 0; r < READERS; r++) {
                readerOpen[r] = false;
            }
        }
    }
}
