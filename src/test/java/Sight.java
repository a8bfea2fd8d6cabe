/**
 * All that can be seen of an object, as one text: two objects with the same sight go on alike. Looking spends the
 * object, since its text is put and its fuse burns down.
 */
final class Sight {
    private final Counted x;
    private final StringBuilder all = new StringBuilder();

    private Sight(Counted x) {
        this.x = x;
    }

    static String of(Counted x) {
        Sight sight = new Sight(x);
        sight.numbers();
        sight.results();
        sight.documents();
        sight.text();
        sight.fuse();
        return sight.all.toString();
    }

    private void note(String what, Object seen) {
        all.append(what).append(' ').append(seen).append('\n');
    }

    private void numbers() {
        StringBuilder sizes = new StringBuilder();
        for (int what = 0; what <= 6; what++) {
            sizes.append(' ').append(x.size(what));
        }
        note("sizes", sizes);
        note("pages", x.pages());
        note("output", x.written());
    }

    private void results() {
        for (int i = 0; x.result(i) != PagedValues.BAD; i++) {
            note("result", x.result(i) + " " + x.show(i) + " " + x.written());
        }
    }

    private void documents() {
        note("restart", x.restart());
        for (int r = -1; r < 3; r++) {
            for (int id = 0; id < 8; id++) {
                int length = x.print(r, id);
                if (length != PagedValues.BAD) {
                    note("document " + r + " " + id, length + " " + x.written());
                }
            }
        }
    }

    /** Readers are closed first, so that pages don't run short. */
    private void text() {
        for (int r = 0; r < 3; r++) {
            note("close", x.close(r));
        }
        note("put", x.put(7) + " " + x.print(-1, 7) + " " + x.written());
    }

    private void fuse() {
        int answer = 1;
        for (int n = 0; n < 8 && answer == 1; n++) {
            x.type('1');
            answer = x.put(7);
        }
        note("last put", answer + " behind block " + x.size(3));
    }
}
