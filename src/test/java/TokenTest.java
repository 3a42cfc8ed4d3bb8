/** Promise 2: which tokens are taken, and that no more than 40 are. */
public final class TokenTest {
    private static final int[] EDGES = {Integer.MIN_VALUE, -100, -8, -1, 100, 256, Integer.MAX_VALUE};

    public static void main(String[] args) {
        kinds();
        namedValues();
        freeValues();
        tries();
        catches();
        fortyAtMost();
        refusedLeavesNothing();
        Checks.end("TokenTest");
    }

    private static boolean taken(int kind, int value) {
        return new OutcomeKit().token(kind, value);
    }

    private static void due(int kind, int value, boolean want) {
        Checks.due("token(" + kind + ", " + value + ")", taken(kind, value), want);
    }

    private static void kinds() {
        for (int kind = -30; kind <= 60; kind++) {
            boolean known = kind >= 0 && kind <= 8 || kind >= 10 && kind <= 21;
            due(kind, 1, known);
        }
        due(Integer.MIN_VALUE, 1, false);
        due(Integer.MAX_VALUE, 1, false);
        due(9, 0, false);
        due(256, 0, false);
    }

    private static void upTo(int kind, int last) {
        for (int value = -2; value <= last + 50; value++) {
            due(kind, value, value >= 0 && value <= last);
        }
        for (int value : EDGES) {
            due(kind, value, false);
        }
    }

    private static void namedValues() {
        upTo(1, 5);
        upTo(8, 3);
        upTo(10, 5);
        upTo(13, 3);
        upTo(16, 3);
        upTo(19, 3);
        upTo(20, 3);
    }

    private static void freeValues() {
        int[] free = {0, 2, 3, 4, 5, 6, 7, 11, 12, 14, 15, 21};
        for (int kind : free) {
            due(kind, 0, true);
            for (int value : EDGES) {
                due(kind, value, true);
            }
        }
    }

    private static void tries() {
        for (int t = -8; t <= 20; t++) {
            due(17, t, t == 1 || t == 2 || t == 4 || t == 5 || t == 6);
        }
        for (int t : EDGES) {
            due(17, t, false);
        }
    }

    private static void catches() {
        for (int v = -2; v <= 8; v++) {
            for (int k = 0; k < 8; k++) {
                due(18, 8 * v + k, v >= 0 && v <= 5 && k <= 4);
            }
        }
        for (int c : EDGES) {
            due(18, c, false);
        }
    }

    private static void fortyAtMost() {
        OutcomeKit kit = new OutcomeKit();
        Checks.feed(kit, Code.node(11, 0, Code.not(Code.not(Code.num(3)))));
        for (int i = 4; i < 40; i++) {
            Checks.due("token " + i, kit.token(15, 0), true);
        }
        Checks.due("token 40", kit.token(15, 0), false);
        Checks.due("token 40, again", kit.token(0, 1), false);
        Checks.due("define(0)", kit.define(0), OutcomeKit.SHAPE);
        Checks.due("token after define", kit.token(15, 0), true);
        Checks.due("define(0) of one", kit.define(0), OutcomeKit.OK);
    }

    private static void refusedLeavesNothing() {
        OutcomeKit kit = new OutcomeKit();
        Checks.due("token(9, 0)", kit.token(9, 0), false);
        Checks.due("token(21, 7)", kit.token(21, 7), true);
        Checks.due("token(1, 6)", kit.token(1, 6), false);
        Checks.due("token(0, 8)", kit.token(0, 8), true);
        Checks.due("token(22, 0)", kit.token(22, 0), false);
        Checks.due("define(0)", kit.define(0), OutcomeKit.OK);
        Checks.outcome("refused tokens", kit, 0, OutcomeKit.OK, 8, -1);
    }
}
