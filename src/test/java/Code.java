/** Writes programs as rows of (kind, value, kind, value, ...) in prefix order. */
final class Code {
    /** The catch-all of a CATCH. */
    static final int ALL = 4;

    private Code() {
    }

    static int[] node(int kind, int value, int[]... parts) {
        int length = 2;
        for (int[] part : parts) {
            length += part.length;
        }
        int[] code = new int[length];
        code[0] = kind;
        code[1] = value;
        int at = 2;
        for (int[] part : parts) {
            System.arraycopy(part, 0, code, at, part.length);
            at += part.length;
        }
        return code;
    }

    static int[] num(int n) { return node(0, n); }
    static int[] var(int v) { return node(1, v); }
    static int[] add(int[] a, int[] b) { return node(2, 0, a, b); }
    static int[] sub(int[] a, int[] b) { return node(3, 0, a, b); }
    static int[] mul(int[] a, int[] b) { return node(4, 0, a, b); }
    static int[] div(int[] a, int[] b) { return node(5, 0, a, b); }
    static int[] less(int[] a, int[] b) { return node(6, 0, a, b); }
    static int[] not(int[] a) { return node(7, 0, a); }
    static int[] call(int f, int[] a) { return node(8, f, a); }

    static int[] set(int v, int[] e) { return node(10, v, e); }
    static int[] say(int[] e) { return node(11, 0, e); }
    static int[] say(int n) { return say(num(n)); }
    static int[] when(int[] e, int[] yes, int[] no) { return node(12, 0, e, yes, no); }
    static int[] loop(int label, int[] e, int[] s) { return node(13, label, e, s); }
    static int[] skip() { return node(15, 0); }
    static int[] raise(int kind, int[] e) { return node(16, kind, e); }
    static int[] raise(int kind, int value) { return raise(kind, num(value)); }
    static int[] leave(int label) { return node(19, label); }
    static int[] again(int label) { return node(20, label); }
    static int[] give(int[] e) { return node(21, 0, e); }
    static int[] give(int n) { return give(num(n)); }

    /** The statements one after the other, by as many SEQs as that takes. */
    static int[] seq(int[]... statements) {
        int[] code = statements[statements.length - 1];
        for (int i = statements.length - 2; i >= 0; i--) {
            code = node(14, 0, statements[i], code);
        }
        return code;
    }

    static int[] grab(int v, int kind, int[] s) { return node(18, 8 * v + kind, s); }

    static int[] attempt(int[] s, int[] handler) { return node(17, 1, s, handler); }
    static int[] attempt(int[] s, int[] first, int[] second) { return node(17, 2, s, first, second); }
    static int[] ensure(int[] s, int[] last) { return node(17, 4, s, last); }
    static int[] ensure(int[] s, int[] handler, int[] last) { return node(17, 5, s, handler, last); }
    static int[] ensure(int[] s, int[] first, int[] second, int[] last) { return node(17, 6, s, first, second, last); }

    /** SKIPs in SEQs: an odd number of tokens, 2 n + 1. */
    static int[] padding(int n) {
        int[][] skips = new int[n + 1][];
        for (int i = 0; i <= n; i++) {
            skips[i] = skip();
        }
        return seq(skips);
    }
}
