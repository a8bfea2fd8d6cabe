/** Promise 2: characters are typed behind the text, which has at most 80. */
public final class Promise02TypeTest {
    public static void main(String[] args) {
        Trial t = new Trial("type");
        for (int n = 1; n <= 80; n++) {
            t.due("type " + n, t.x.type(n == 80 ? '7' : ' '), n);
        }
        t.due("type the 81st", t.x.type('1'), PagedValues.BAD);
        t.due("size(0)", t.x.size(0), 80);
        t.due("put(0)", t.x.put(0), 1);
        t.due("type again", t.x.type('1'), 1);
        t.prints(-1, 0, "7");

        Trial any = new Trial("any character");
        char[] odd = {0, 9, 31, 127, 128, 255, 256, 0x2028, 0xd800, 0xffff};
        for (int n = 0; n < odd.length; n++) {
            any.due("type(" + (int) odd[n] + ")", any.x.type(odd[n]), n + 1);
        }
        any.due("put(0)", any.x.put(0), -100);

        Trial down = new Trial("type when stopped");
        down.x.fuse(1);
        down.put("1", 0, PagedValues.DOWN);
        down.due("type", down.x.type('1'), PagedValues.DOWN);
        down.due("size(0)", down.x.size(0), 0);
        down.x.restart();
        down.due("type", down.x.type('1'), 1);
        Trial.end();
    }
}
