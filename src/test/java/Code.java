import java.util.Arrays;

/** Writes programs as rows of (kind, value, kind, value, ...) in prefix order. */
final class Code {
    private Code() {
    }

    /** These rows one behind the other. */
    static int[] row(int[]... parts) {
        int length = 0;
        for (int[] part : parts) {
            length += part.length;
        }
        int[] all = new int[length];
        int at = 0;
        for (int[] part : parts) {
            System.arraycopy(part, 0, all, at, part.length);
            at += part.length;
        }
        return all;
    }

    static int[] node(int kind, int value, int[]... parts) {
        int[] behind = row(parts);
        return row(new int[] {kind, value}, behind);
    }

    static int[] num(int n) { return node(0, n); }
    static int[] var(int v) { return node(1, v); }
    static int[] add(int[] a, int[] b) { return node(2, 0, a, b); }
    static int[] sub(int[] a, int[] b) { return node(3, 0, a, b); }
    static int[] mul(int[] a, int[] b) { return node(4, 0, a, b); }
    static int[] div(int[] a, int[] b) { return node(5, 0, a, b); }
    static int[] less(int[] a, int[] b) { return node(6, 0, a, b); }
    static int[] not(int[] a) { return node(7, 0, a); }
    static int[] call(int f, int[] a) { return node(8, f, a); }

    static int[] set(int v, int[] e) { return node(10, v, e); }
    static int[] say(int[] e) { return node(11, 0, e); }
    static int[] say(int n) { return say(num(n)); }
    static int[] when(int[] e, int[] yes, int[] no) { return node(12, 0, e, yes, no); }
    static int[] loop(int label, int[] e, int[] s) { return node(13, label, e, s); }
    static int[] skip() { return node(15, 0); }
    static int[] raise(int kind, int[] e) { return node(16, kind, e); }
    static int[] raise(int kind, int value) { return raise(kind, num(value)); }
    static int[] leave(int label) { return node(19, label); }
    static int[] again(int label) { return node(20, label); }
    static int[] give(int[] e) { return node(21, 0, e); }
    static int[] give(int n) { return give(num(n)); }

    /** The statements one after the other, by as many SEQs as that takes. */
    static int[] seq(int[]... statements) {
        int[] code = statements[statements.length - 1];
        for (int i = statements.length - 2; i >= 0; i--) {
            code = node(14, 0, statements[i], code);
        }
        return code;
    }

    static int[] grab(int v, int kind, int[] s) { return node(18, 8 * v + kind, s); }

    static int[] attempt(int[] s, int[] handler) { return node(17, 1, s, handler); }
    static int[] attempt(int[] s, int[] first, int[] second) { return node(17, 2, s, first, second); }
    static int[] ensure(int[] s, int[] last) { return node(17, 4, s, last); }
    static int[] ensure(int[] s, int[] handler, int[] last) { return node(17, 5, s, handler, last); }
    static int[] ensure(int[] s, int[] first, int[] second, int[] last) { return node(17, 6, s, first, second, last); }

    /** This statement behind others that do nothing, so that there are this many tokens. */
    static int[] padded(int tokens, int[] statement) {
        int missing = tokens - statement.length / 2;
        int[] code = statement;
        if (missing % 2 == 1) {
            code = seq(set(5, var(5)), code);
            missing -= 3;
        }
        for (; missing > 0; missing -= 2) {
            code = seq(skip(), code);
        }
        return code;
    }

    /** This statement as the end of a body of 40 tokens. */
    static int[] forty(int[] statement) { return padded(40, statement); }

    /** The same token many times. */
    static int[] repeat(int times, int kind, int value) {
        int[][] tokens = new int[times][];
        Arrays.fill(tokens, node(kind, value));
        return row(tokens);
    }

    /** The first tokens of a program. */
    static int[] firstOf(int tokens, int[] code) { return Arrays.copyOf(code, 2 * tokens); }

    /** Adds 1 to variable v. */
    static int[] count(int v) { return set(v, add(var(v), num(1))); }

    /** Counts variable 0 down to 0: as many turns as the argument says, that many + 1 steps. */
    static int[] countdown() { return loop(0, var(0), set(0, sub(var(0), num(1)))); }

    /** Says its argument and all that is below it, down to 1. */
    static int[] saying() { return loop(0, var(0), seq(say(var(0)), set(0, sub(var(0), num(1))))); }
}
