/** One object under test with short words for common calls; counts the answers that are not due. */
final class Trial {
    private static int wrong = 0;

    final Counted x = new Counted();
    private final String name;

    Trial(String name) {
        this.name = name;
    }

    void due(String call, long got, long want) {
        if (got != want) {
            wrong++;
            System.out.println(name + ": " + call + " answered " + got + ", due is " + want);
        }
    }

    void due(String call, boolean got, boolean want) {
        due(call, got ? 1 : 0, want ? 1 : 0);
    }

    void due(String call, String got, String want) {
        if (!got.equals(want)) {
            wrong++;
            System.out.println(name + ": " + call + " gave " + got + ", due is " + want);
        }
    }

    Trial type(String text) {
        int before = x.size(0);
        for (int n = 0; n < text.length(); n++) {
            due("type(" + (int) text.charAt(n) + ")", x.type(text.charAt(n)), before + n + 1);
        }
        return this;
    }

    void put(String text, int id, int want) {
        type(text);
        due("put(" + id + ") of " + text, x.put(id), want);
    }

    void patch(String text, int id, int want) {
        type(text);
        due("patch(" + id + ") of " + text, x.patch(id), want);
    }

    void query(String text, int r, int id, int want) {
        type(text);
        due("query(" + r + ", " + id + ") of " + text, x.query(r, id), want);
    }

    /** Calls in short: p4 puts 1 as document 4, r4 removes it, o opens a reader, c0 closes reader 0; all must be taken. */
    Trial steps(String calls) {
        for (String call : calls.split(" ")) {
            int n = call.length() == 1 ? 0 : call.charAt(1) - '0';
            switch (call.charAt(0)) {
                case 'p':
                    put("1", n, 1);
                    break;
                case 'r':
                    due("remove(" + n + ") is taken", x.remove(n) >= 0, true);
                    break;
                case 'o':
                    due("open() is taken", x.open() >= 0, true);
                    break;
                default:
                    due("close(" + n + ")", x.close(n), true);
                    break;
            }
        }
        return this;
    }

    /** Six writes of this text as documents 0, 4 and 5 while three readers look, which leave one page free. */
    void fill(String text, int size) {
        put(text, 0, size);
        put(text, 4, size);
        x.open();
        put(text, 0, size);
        x.open();
        put(text, 0, size);
        x.open();
        put(text, 5, size);
        put(text, 5, size);
        pages("222121121210");
        sizes(0, 3, 3, 18, 0, 6, 0);
    }

    /** The document as print() and output() tell it. */
    void prints(int r, int id, String want) {
        due("print(" + r + ", " + id + ")", x.print(r, id), want.length());
        due("output after print(" + r + ", " + id + ")", written(), want);
    }

    /** The results as result(), show() and output() tell them: each an id, a colon and the value. */
    void results(String... want) {
        for (int i = 0; i < want.length; i++) {
            int id = x.result(i);
            due("show(" + i + ")", x.show(i), want[i].length() - 2);
            due("result " + i, id + ":" + written(), want[i]);
        }
        due("result behind the last", x.result(want.length), PagedValues.BAD);
        due("show behind the last", x.show(want.length), PagedValues.BAD);
    }

    String written() {
        return x.written();
    }

    void pages(String want) {
        due("pages", x.pages(), want);
    }

    void sizes(int... want) {
        for (int what = 0; what < want.length; what++) {
            due("size(" + what + ")", x.size(what), want[what]);
        }
    }

    static void end() {
        System.out.println(wrong == 0 ? "all answers are as due" : wrong + " answers are not as due");
        if (wrong != 0) {
            System.exit(1);
        }
    }
}
