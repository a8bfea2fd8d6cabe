/** The face of one object, which counts its calls: behind the 512th one no answer is promised. */
final class Counted {
    private static final int MOST_CALLS = 512;

    private final PagedValues x = new PagedValues();
    private int calls = 0;

    int calls() {
        return calls;
    }

    private PagedValues call() {
        calls++;
        if (calls > MOST_CALLS) {
            throw new IllegalStateException("a test makes more calls than the document promises to answer");
        }
        return x;
    }

    int type(char c) {
        return call().type(c);
    }

    int put(int id) {
        return call().put(id);
    }

    int patch(int id) {
        return call().patch(id);
    }

    int remove(int id) {
        return call().remove(id);
    }

    int query(int r, int id) {
        return call().query(r, id);
    }

    int result(int i) {
        return call().result(i);
    }

    int show(int i) {
        return call().show(i);
    }

    int print(int r, int id) {
        return call().print(r, id);
    }

    int output(int p) {
        return call().output(p);
    }

    int open() {
        return call().open();
    }

    boolean close(int r) {
        return call().close(r);
    }

    boolean fuse(int k) {
        return call().fuse(k);
    }

    boolean restart() {
        return call().restart();
    }

    int page(int n) {
        return call().page(n);
    }

    int size(int what) {
        return call().size(what);
    }

    /** The whole output. */
    String written() {
        StringBuilder all = new StringBuilder();
        int c = output(0);
        for (int p = 1; c != PagedValues.BAD; p++) {
            all.append((char) c);
            c = output(p);
        }
        return all.toString();
    }

    /** The use of every page: a character 0, 1 or 2 for each. */
    String pages() {
        StringBuilder all = new StringBuilder();
        for (int n = 0; n < 12; n++) {
            all.append(page(n));
        }
        return all.toString();
    }
}
