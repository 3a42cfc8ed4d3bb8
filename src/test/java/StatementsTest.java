/** Terms: IF, WHILE, SEQ, SAY, THROW, BREAK, CONTINUE and RETURN, and how they end. */
public final class StatementsTest {
    private static final int LEAST = Integer.MIN_VALUE, MOST = Integer.MAX_VALUE;
    private static final int[] BELOW_3 = Code.less(Code.var(0), Code.num(3));
    private static final int[] AT_2 = Code.not(Code.sub(Code.var(0), Code.num(2)));

    public static void main(String[] args) {
        ifNotZero();
        ifDoesOne();
        whileNotZero();
        whileTurns();
        seqNormally();
        seqOtherwise();
        sayAdds();
        throwKinds();
        returnsAValue();
        breaks();
        continues();
        theInnermostWithThatLabel();
        anOuterLabel();
        everyLabel();
        ofTheSameFunction();
        Checks.end("StatementsTest");
    }

    private static void ifNotZero() {
        Checks.about("Promise 6, Terms", "IF: the first S if E is not 0, else the second");
        OutcomeKit kit = Checks.kitWith(Code.when(Code.var(0), Code.give(1), Code.give(2)));
        for (int e : new int[] {LEAST, LEAST + 1, -65536, -2, -1, 0, 1, 2, 256, 65536, MOST}) {
            Checks.outcome("IF", kit, e, OutcomeKit.OK, e != 0 ? 1 : 2, -1);
        }
    }

    private static void ifDoesOne() {
        Checks.about("Promise 6, Terms", "IF: the first S if E is not 0, else the second");
        Checks.returns("not 0", Code.seq(Code.when(Code.num(-1), Code.say(1), Code.say(2)), Code.say(3)), 0, 1, 3);
        Checks.returns("0", Code.seq(Code.when(Code.num(0), Code.say(1), Code.say(2)), Code.say(3)), 0, 2, 3);
        Checks.returns("the first makes E 0", Code.when(Code.not(Code.var(0)), Code.set(0, Code.num(1)), Code.say(2)), 0);
        Checks.returns("IF in IF", Code.when(Code.num(1), Code.when(Code.num(0), Code.say(1), Code.say(2)), Code.say(3)), 0, 2);
        Checks.returns("IF in the second", Code.when(Code.num(0), Code.say(1), Code.when(Code.num(1), Code.say(2), Code.say(3))), 0, 2);
    }

    private static void whileNotZero() {
        Checks.about("Promise 6, Terms", "WHILE: as long as E is not 0, S");
        OutcomeKit kit = Checks.kitWith(Code.loop(0, Code.var(0), Code.give(1)));
        for (int e : new int[] {LEAST, -1, 0, 1, 256, 65536, MOST}) {
            Checks.outcome("WHILE", kit, e, OutcomeKit.OK, e != 0 ? 1 : 0, -1);
        }
    }

    private static void whileTurns() {
        Checks.about("Promise 6, Terms", "WHILE: as long as E is not 0, S");
        OutcomeKit kit = Checks.kitWith(Code.seq(Code.saying(), Code.give(8)));
        Checks.outcome("not once", kit, 0, OutcomeKit.OK, 8, -1);
        Checks.outcome("once", kit, 1, OutcomeKit.OK, 8, -1, 1);
        Checks.outcome("twice", kit, 2, OutcomeKit.OK, 8, -1, 2, 1);
        Checks.returns("E is below 0", Code.loop(0, Code.sub(Code.var(0), Code.num(2)), Code.seq(Code.count(0), Code.say(9))), 0, 9, 9);
        int[] inner = Code.loop(1, Code.less(Code.var(1), Code.num(2)), Code.seq(Code.count(1), Code.say(Code.var(1))));
        Checks.returns("WHILE in WHILE", Code.loop(0, Code.less(Code.var(0), Code.num(2)), Code.seq(Code.count(0),
            Code.set(1, Code.num(0)), inner)), 0, 1, 2, 1, 2);
    }

    private static void seqNormally() {
        Checks.about("Promise 6, Terms", "SEQ: the first S, and if that ends normally the second");
        Checks.returns("to the right", Code.seq(Code.say(1), Code.say(2), Code.say(3)), 0, 1, 2, 3);
        Checks.returns("to the left", Code.seq(Code.seq(Code.say(1), Code.say(2)), Code.say(3)), 0, 1, 2, 3);
        Checks.returns("behind BREAK's WHILE", Code.seq(Code.loop(0, Code.num(1), Code.leave(0)), Code.say(2)), 0, 2);
        Checks.returns("behind a catch", Code.seq(Code.attempt(Code.raise(1, 1), Code.grab(0, 1, Code.skip())), Code.say(2)), 0, 2);
    }

    private static void seqOtherwise() {
        Checks.about("Promise 6, Terms", "SEQ: the first S, and if that ends normally the second");
        Checks.returns("RETURN", Code.seq(Code.say(1), Code.give(5), Code.say(3)), 5, 1);
        Checks.throwsOut("THROW", Code.seq(Code.say(1), Code.raise(2, 5), Code.say(3)), 2, 5, 1);
        Checks.throwsOut("an E that throws", Code.seq(Code.set(0, Code.div(Code.num(5), Code.num(0))), Code.say(3)), 0, 5);
        Checks.returns("BREAK", Code.loop(0, Code.num(1), Code.seq(Code.leave(0), Code.say(3))), 0);
        Checks.returns("CONTINUE", Code.loop(0, BELOW_3, Code.seq(Code.count(0), Code.again(0), Code.say(3))), 0);
    }

    private static void sayAdds() {
        Checks.about("Promise 6, Terms", "SAY: E is added to the output");
        Checks.returns("the same twice", Code.seq(Code.say(4), Code.say(4), Code.say(0)), 0, 4, 4, 0);
    }

    private static void throwKinds() {
        Checks.about("Promise 6, Terms", "THROW k E: an exception of kind k with the value E; a kind 0..3 and a value");
        for (int k = 0; k < 4; k++) {
            for (int value : new int[] {LEAST, -1, 0, 1, MOST}) {
                Checks.throwsOut("THROW " + k, Code.raise(k, value), k, value);
            }
        }
        Checks.throwsOut("in WHILE", Code.loop(0, Code.num(1), Code.raise(0, 4)), 0, 4);
    }

    private static void returnsAValue() {
        Checks.about("Promise 6, Terms", "RETURNS a value");
        for (int value : new int[] {LEAST, -1, 0, 1, MOST}) {
            Checks.returns("RETURN", Code.seq(Code.give(value), Code.say(1)), value);
        }
        Checks.returns("out of two WHILEs", Code.loop(0, Code.num(1), Code.loop(1, Code.num(1), Code.give(4))), 4);
    }

    private static void breaks() {
        Checks.about("Promise 6, Terms", "it BREAKS to a WHILE");
        Checks.returns("at the second turn", Code.seq(Code.loop(3, Code.num(1), Code.seq(Code.count(0),
            Code.when(AT_2, Code.leave(3), Code.skip()), Code.say(Code.var(0)))), Code.say(7)), 0, 1, 7);
        Checks.returns("at the first turn", Code.seq(Code.loop(0, Code.num(1), Code.leave(0)), Code.say(7)), 0, 7);
    }

    private static void continues() {
        Checks.about("Promise 6, Terms", "it CONTINUES a WHILE");
        Checks.returns("at the second turn", Code.seq(Code.loop(2, BELOW_3, Code.seq(Code.count(0),
            Code.when(AT_2, Code.again(2), Code.skip()), Code.say(Code.var(0)))), Code.say(7)), 0, 1, 3, 7);
        Checks.returns("at every turn", Code.seq(Code.loop(2, BELOW_3, Code.seq(Code.count(0), Code.again(2), Code.say(1))), Code.say(7)), 0, 7);
        Checks.returns("E is worked out again", Code.loop(0, Code.not(Code.var(0)), Code.seq(Code.set(0, Code.num(1)), Code.again(0))), 0);
    }

    private static void theInnermostWithThatLabel() {
        Checks.about("Promise 6, Terms", "a WHILE (the innermost around it, with that label)");
        int[] leaves = Code.loop(1, Code.num(1), Code.seq(Code.say(5), Code.leave(1)));
        Checks.returns("BREAK", Code.loop(1, BELOW_3, Code.seq(Code.count(0), leaves, Code.say(6))), 0, 5, 6, 5, 6, 5, 6);
        int[] goes = Code.loop(1, Code.less(Code.var(1), Code.num(2)), Code.seq(Code.count(1), Code.again(1)));
        Checks.returns("CONTINUE", Code.loop(1, Code.less(Code.var(0), Code.num(2)), Code.seq(Code.count(0), goes, Code.say(6))), 0, 6, 6);
        Checks.returns("another label between", Code.loop(1, Code.less(Code.var(0), Code.num(2)), Code.seq(Code.count(0),
            Code.loop(1, Code.num(1), Code.seq(Code.loop(2, Code.num(1), Code.leave(1)), Code.say(4))), Code.say(6))), 0, 6, 6);
    }

    private static void anOuterLabel() {
        Checks.about("Promise 6, Terms", "a WHILE (the innermost around it, with that label)");
        int[] leaves = Code.loop(1, Code.num(1), Code.seq(Code.say(5), Code.leave(0)));
        Checks.returns("BREAK", Code.seq(Code.loop(0, BELOW_3, Code.seq(Code.count(0), leaves, Code.say(6))), Code.say(7)), 0, 5, 7);
        int[] goes = Code.loop(1, Code.num(1), Code.seq(Code.say(5), Code.again(0)));
        Checks.returns("CONTINUE", Code.seq(Code.loop(0, BELOW_3, Code.seq(Code.count(0), goes, Code.say(6))), Code.say(7)), 0, 5, 5, 5, 7);
    }

    /** WHILE 0, in it WHILE 1, in it WHILE 2, in it WHILE 3, one turn each, and the innermost does the jump. */
    private static int[] nest(int[] jump) {
        int[] code = jump;
        for (int label = 3; label >= 0; label--) {
            int[] turn = Code.seq(Code.set(label, Code.num(1)), code, Code.say(label));
            code = Code.loop(label, Code.not(Code.var(label)), turn);
        }
        return code;
    }

    private static void everyLabel() {
        Checks.about("Promise 6, Terms", "labels l 0..3; a WHILE (the innermost around it, with that label)");
        int[][] said = {{}, {0}, {1, 0}, {2, 1, 0}};
        for (int label = 0; label < 4; label++) {
            Checks.returns("BREAK " + label, nest(Code.leave(label)), 0, said[label]);
            Checks.returns("CONTINUE " + label, nest(Code.again(label)), 0, said[label]);
        }
        Checks.returns("SKIP", nest(Code.skip()), 0, 3, 2, 1, 0);
    }

    private static void ofTheSameFunction() {
        Checks.about("Promise 6, Terms", "a WHILE (the innermost around it, of the same function, with that label)");
        int[] callee = Code.seq(Code.loop(0, Code.num(1), Code.leave(0)), Code.say(3), Code.give(1));
        OutcomeKit kit = Checks.kitWith(Code.loop(0, Code.less(Code.var(0), Code.num(2)),
            Code.set(0, Code.add(Code.var(0), Code.call(1, Code.num(0))))), callee);
        Checks.outcome("the callee's BREAK is its own", kit, 0, OutcomeKit.OK, 0, -1, 3, 3);
        OutcomeKit plain = Checks.kitWith(Code.loop(0, Code.less(Code.var(0), Code.num(2)), Code.seq(Code.count(0),
            Code.set(1, Code.call(1, Code.num(2))), Code.say(Code.var(1)))), Code.give(Code.var(0)));
        Checks.outcome("the callee's RETURN is its own", plain, 0, OutcomeKit.OK, 0, -1, 2, 2);
    }
}
