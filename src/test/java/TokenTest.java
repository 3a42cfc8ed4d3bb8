/** Promise 2: which tokens are taken, that no more than 40 are, and that a refused one leaves nothing. */
public final class TokenTest {
    private static final int LEAST = Integer.MIN_VALUE, MOST = Integer.MAX_VALUE;
    private static final int[] FAR = {LEAST, LEAST + 1, -257, -256, -100, -8, 100, 256, 257, 65536, MOST - 1, MOST};

    public static void main(String[] args) {
        appends();
        kindsBelowTheFirst();
        kindsAboutNine();
        kindsAboveTheLast();
        variables();
        functions();
        labels();
        kindsOfThrow();
        tries();
        catches();
        anyNumber();
        unnamedValues();
        unnamedValuesMeanNothing();
        thereAreForty();
        roomAgain();
        noRoomAfterBad();
        refusedLeavesNothing();
        refusedAtFortyLeavesNothing();
        Checks.end("TokenTest");
    }

    private static void taken(int kind, int value, boolean want) {
        Checks.due("token(" + kind + ", " + value + ")", new OutcomeKit().token(kind, value), want);
    }

    private static void appends() {
        Checks.about("Promise 2", "Appends a token to the draft.");
        Checks.returns("SUB 5 3", Code.give(Code.sub(Code.num(5), Code.num(3))), 2);
        Checks.returns("SUB 3 5", Code.give(Code.sub(Code.num(3), Code.num(5))), -2);
        OutcomeKit kit = Checks.kitWith(Code.seq(Code.say(1), Code.say(2), Code.say(3)));
        Checks.outcome("in their order", kit, 0, OutcomeKit.OK, 0, -1, 1, 2, 3);
    }

    private static void kindsBelowTheFirst() {
        Checks.about("Promise 2", "False if the kind is none of these");
        for (int kind : new int[] {LEAST, LEAST + 1, -65536, -256, -21, -10, -2, -1}) {
            taken(kind, 0, false);
            taken(kind, 1, false);
        }
        taken(0, 1, true);
        taken(1, 1, true);
    }

    private static void kindsAboutNine() {
        Checks.about("Promise 2", "False if the kind is none of these");
        taken(8, 1, true);
        for (int value : new int[] {LEAST, -1, 0, 1, 2, MOST}) {
            taken(9, value, false);
        }
        taken(10, 1, true);
    }

    private static void kindsAboveTheLast() {
        Checks.about("Promise 2", "False if the kind is none of these");
        for (int kind = 10; kind <= 21; kind++) {
            taken(kind, 1, true);
        }
        for (int kind : new int[] {22, 23, 24, 31, 32, 64, 255, 256, 256 + 15, 65536 + 15, MOST - 1, MOST}) {
            taken(kind, 0, false);
            taken(kind, 1, false);
        }
    }

    /** The values from 0 to last are taken, those around them are not. */
    private static void upTo(int kind, int last) {
        for (int value = -9; value <= last + 60; value++) {
            taken(kind, value, value >= 0 && value <= last);
        }
        for (int value : FAR) {
            taken(kind, value, false);
        }
    }

    private static void variables() {
        Checks.about("Promise 2 and Terms", "v 0..5");
        upTo(1, 5);
        upTo(10, 5);
    }

    private static void functions() {
        Checks.about("Promise 2 and Terms", "f 0..3");
        upTo(8, 3);
    }

    private static void labels() {
        Checks.about("Promise 2 and Terms", "labels l 0..3");
        upTo(13, 3);
        upTo(19, 3);
        upTo(20, 3);
    }

    private static void kindsOfThrow() {
        Checks.about("Promise 2 and Terms", "k 0..3");
        upTo(16, 3);
    }

    private static void tries() {
        Checks.about("Promise 2 and Terms", "TRY's t is the number of its C (0..2) and 4 more if there is a finally part: 1, 2, 4, 5, 6");
        for (int t = -20; t <= 40; t++) {
            taken(17, t, t == 1 || t == 2 || t == 4 || t == 5 || t == 6);
        }
        for (int t : FAR) {
            taken(17, t, false);
        }
    }

    private static void catches() {
        Checks.about("Promise 2 and Terms", "CATCH's c is 8 v + k, k being 0..3, or 4 for all");
        for (int v = -3; v <= 9; v++) {
            for (int k = 0; k < 8; k++) {
                taken(18, 8 * v + k, v >= 0 && v <= 5 && k <= 4);
            }
        }
        for (int c : FAR) {
            taken(18, c, false);
        }
    }

    private static void anyNumber() {
        Checks.about("Promise 2 and Terms", "NUM n (any int)");
        for (int n : new int[] {LEAST, LEAST + 1, -41, -1, 0, 1, 6, 40, 41, 65535, 65536, MOST - 1, MOST}) {
            Checks.returns("NUM " + n, Code.give(n), n);
        }
    }

    private static void unnamedValues() {
        Checks.about("Promise 2", "the value (where one is named) is not as said");
        for (int kind : new int[] {2, 3, 4, 5, 6, 7, 11, 12, 14, 15, 21}) {
            for (int value = -2; value <= 50; value++) {
                taken(kind, value, true);
            }
            for (int value : FAR) {
                taken(kind, value, true);
            }
        }
    }

    private static void unnamedValuesMeanNothing() {
        Checks.about("Promise 2", "the value (where one is named)");
        for (int n : new int[] {LEAST, -1, 1, 3, 4, 7, MOST}) {
            int[] five = Code.node(2, n, Code.num(2), Code.num(3));
            int[] ten = Code.node(4, n, Code.node(3, n, five, Code.num(3)), Code.node(5, n, Code.num(11), Code.num(2)));
            int[] no = Code.node(7, n, Code.node(6, n, Code.num(1), Code.num(2)));
            int[] says = Code.node(14, n, Code.node(11, n, ten), Code.node(12, n, no, Code.say(1), Code.node(15, n)));
            Checks.returns("the value " + n, Code.node(14, n, says, Code.node(21, n, five)), 5, 10);
        }
    }

    private static void thereAreForty() {
        Checks.about("Promise 2", "False if there are 40");
        OutcomeKit kit = new OutcomeKit();
        int[] forty = Code.forty(Code.give(5));
        for (int i = 0; i < 40; i++) {
            Checks.due("token " + i, kit.token(forty[2 * i], forty[2 * i + 1]), true);
        }
        for (int kind = -1; kind <= 22; kind++) {
            Checks.due("token 40 of kind " + kind, kit.token(kind, 1), false);
        }
        Checks.due("define(0) of the 40", kit.define(0), OutcomeKit.OK);
        Checks.outcome("the 40", kit, 0, OutcomeKit.OK, 5, -1);
    }

    private static void roomAgain() {
        Checks.about("Promises 2, 3 and 12", "the draft, which is empty then; define empties the draft also when it answers SHAPE or UNBOUND");
        OutcomeKit kit = new OutcomeKit();
        Checks.give(kit, 0, Code.forty(Code.skip()));
        Checks.room("after OK", kit, 40);
        Checks.due("define(0) of 40 SKIPs", kit.define(0), OutcomeKit.SHAPE);
        Checks.room("after SHAPE", kit, 40);
        kit.define(0);
        Checks.refuse("a lone BREAK", kit, 0, OutcomeKit.UNBOUND, 39, Code.forty(Code.leave(0)));
        Checks.room("after UNBOUND", kit, 40);
    }

    private static void noRoomAfterBad() {
        Checks.about("Promises 2 and 3", "BAD (the draft stays)");
        OutcomeKit kit = new OutcomeKit();
        Checks.feed(kit, Code.padded(39, Code.skip()));
        Checks.due("define(4)", kit.define(4), OutcomeKit.BAD);
        Checks.room("39 stayed", kit, 1);
        Checks.due("define(-1)", kit.define(-1), OutcomeKit.BAD);
        Checks.room("40 stayed", kit, 0);
    }

    private static void refuseMany(OutcomeKit kit) {
        int[][] wrong = {{-1, 0}, {9, 0}, {22, 0}, {LEAST, 1}, {MOST, 1}, {1, 6}, {1, -1}, {8, 4}, {10, 6}, {13, 4}, {16, 4},
            {17, 0}, {17, 3}, {17, 7}, {18, 5}, {18, 48}, {18, -1}, {19, 4}, {20, -1}};
        for (int[] token : wrong) {
            Checks.due("token(" + token[0] + ", " + token[1] + ")", kit.token(token[0], token[1]), false);
        }
    }

    private static void refusedLeavesNothing() {
        Checks.about("Promise 2", "Appends a token to the draft. False if");
        for (int[] draft : Kits.drafts()) {
            OutcomeKit kit = Kits.usedWith(draft);
            refuseMany(kit);
            Checks.alike("after refused tokens", kit, Kits.usedWith(draft));
        }
        OutcomeKit between = new OutcomeKit();
        int[] code = Code.give(Code.sub(Code.num(9), Code.num(1)));
        for (int i = 0; i < code.length; i += 2) {
            refuseMany(between);
            Checks.due("a token between refused ones", between.token(code[i], code[i + 1]), true);
        }
        refuseMany(between);
        Checks.due("define(0)", between.define(0), OutcomeKit.OK);
        Checks.outcome("refused tokens between", between, 0, OutcomeKit.OK, 8, -1);
    }

    private static void refusedAtFortyLeavesNothing() {
        Checks.about("Promise 2", "False if there are 40");
        int[] draft = Code.forty(Code.say(41));
        OutcomeKit kit = Kits.usedWith(draft);
        for (int i = 0; i < 50; i++) {
            Checks.due("token beyond 40", kit.token(15, 0), false);
        }
        Checks.alike("after tokens beyond 40", kit, Kits.usedWith(draft));
    }
}
