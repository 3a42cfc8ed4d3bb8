/** Promise 6, run: how functions, expressions and plain statements are done, and what run answers. */
public final class RunTest {
    private static final int LEAST = Integer.MIN_VALUE, MOST = Integer.MAX_VALUE;

    public static void main(String[] args) {
        answers();
        outside();
        arithmetic();
        operandOrder();
        variables();
        plainStatements();
        loops();
        calls();
        callsThatThrow();
        depth();
        Checks.end("RunTest");
    }

    private static void value(String what, int[] e, int want) {
        Checks.returns(what, Code.give(e), want);
    }

    private static void answers() {
        Checks.returns("ends", Code.skip(), 0);
        Checks.returns("ends after a value", Code.set(0, Code.num(8)), 0);
        Checks.returns("returns", Code.give(-7), -7);
        Checks.throwsOut("throws", Code.raise(3, -7), 3, -7);
        Checks.outcome("no body", new OutcomeKit(), 5, OutcomeKit.THROWN, 0, 1);
        OutcomeKit kit = new OutcomeKit();
        Checks.due("no body: run(3, 9)", kit.run(3, 9), OutcomeKit.THROWN);
        Checks.due("no body: result()", kit.result(), 3);
        Checks.outcome("LONG", Checks.kitWith(Code.loop(0, Code.num(1), Code.skip())), 0, OutcomeKit.LONG, 0, -1);
    }

    private static void outside() {
        OutcomeKit kit = Checks.kitWith(Code.seq(Code.say(4), Code.raise(2, 6)));
        Checks.outcome("before", kit, 0, OutcomeKit.THROWN, 6, 2, 4);
        for (int f : new int[] {-1, 4, LEAST, MOST}) {
            Checks.due("run(" + f + ", 1)", kit.run(f, 1), OutcomeKit.BAD);
        }
        Checks.due("result() after BAD", kit.result(), 6);
        Checks.due("kind() after BAD", kit.kind(), 2);
        Checks.due("steps() after BAD", kit.steps(), 1);
        Checks.due("says() after BAD", kit.says(), 1);
        Checks.due("said(0) after BAD", kit.said(0), 4);
    }

    private static void arithmetic() {
        int[][] pairs = {{7, 2}, {-7, 2}, {7, -2}, {-7, -2}, {LEAST, -1}, {LEAST, 1}, {MOST, 1}, {MOST, MOST},
            {LEAST, LEAST}, {1, LEAST}, {0, 5}, {3, 3}, {-1, 0x10001}, {46341, 46341}};
        for (int[] pair : pairs) {
            int a = pair[0];
            int b = pair[1];
            int[] x = Code.num(a);
            int[] y = Code.num(b);
            value(a + " + " + b, Code.add(x, y), a + b);
            value(a + " - " + b, Code.sub(x, y), a - b);
            value(a + " * " + b, Code.mul(x, y), a * b);
            value(a + " / " + b, Code.div(x, y), a / b);
            value(a + " < " + b, Code.less(x, y), a < b ? 1 : 0);
        }
        value("-7 / 2", Code.div(Code.num(-7), Code.num(2)), -3);
        value("least / -1", Code.div(Code.num(LEAST), Code.num(-1)), LEAST);
        value("NOT 0", Code.not(Code.num(0)), 1);
        value("NOT 1", Code.not(Code.num(1)), 0);
        value("NOT -1", Code.not(Code.num(-1)), 0);
        value("NOT least", Code.not(Code.num(LEAST)), 0);
        Checks.throwsOut("9 / 0", Code.give(Code.div(Code.num(9), Code.num(0))), 0, 9);
        Checks.throwsOut("0 / 0", Code.give(Code.div(Code.num(0), Code.num(0))), 0, 0);
        Checks.throwsOut("least / 0", Code.say(Code.div(Code.num(LEAST), Code.not(Code.num(3)))), 0, LEAST);
        value("nested", Code.sub(Code.sub(Code.num(10), Code.num(3)), Code.sub(Code.num(5), Code.num(1))), 3);
    }

    private static OutcomeKit withTeller(int[] body) {
        OutcomeKit kit = Checks.kitWith(body);
        Checks.give(kit, 1, Code.seq(Code.say(Code.var(0)), Code.give(Code.var(0))));
        return kit;
    }

    private static void operandOrder() {
        int[] one = Code.call(1, Code.num(1));
        int[] two = Code.call(1, Code.num(2));
        int[] none = Code.call(1, Code.num(0));
        int[] broken = Code.div(Code.num(8), Code.num(0));
        Checks.outcome("ADD", withTeller(Code.give(Code.add(one, two))), 0, OutcomeKit.OK, 3, -1, 1, 2);
        Checks.outcome("SUB", withTeller(Code.give(Code.sub(one, two))), 0, OutcomeKit.OK, -1, -1, 1, 2);
        Checks.outcome("MUL by 0", withTeller(Code.give(Code.mul(none, two))), 0, OutcomeKit.OK, 0, -1, 0, 2);
        Checks.outcome("LESS", withTeller(Code.give(Code.less(one, two))), 0, OutcomeKit.OK, 1, -1, 1, 2);
        Checks.outcome("DIV by 0", withTeller(Code.give(Code.div(two, none))), 0, OutcomeKit.THROWN, 2, 0, 2, 0);
        Checks.outcome("the first throws", withTeller(Code.give(Code.add(broken, one))), 0, OutcomeKit.THROWN, 8, 0);
        Checks.outcome("the second throws", withTeller(Code.give(Code.add(one, broken))), 0, OutcomeKit.THROWN, 8, 0, 1);
        Checks.outcome("CALL's E throws", withTeller(Code.give(Code.call(1, broken))), 0, OutcomeKit.THROWN, 8, 0);
        Checks.outcome("E throws before no body", withTeller(Code.give(Code.call(3, broken))), 0, OutcomeKit.THROWN, 8, 0);
        Checks.outcome("no body after E", withTeller(Code.give(Code.call(3, one))), 0, OutcomeKit.THROWN, 3, 1, 1);
        Checks.throwsOut("THROW's E throws", Code.raise(3, broken), 0, 8);
        Checks.throwsOut("SAY's E throws", Code.say(broken), 0, 8);
        Checks.throwsOut("RETURN's E throws", Code.give(broken), 0, 8);
        Checks.throwsOut("IF's E throws", Code.when(broken, Code.say(1), Code.say(2)), 0, 8);
        Checks.throwsOut("WHILE's E throws", Code.loop(0, broken, Code.say(1)), 0, 8);
        Checks.throwsOut("NOT's E throws", Code.give(Code.not(broken)), 0, 8);
    }

    private static void variables() {
        int[] sum = Code.num(0);
        for (int v = 0; v < 6; v++) {
            sum = Code.add(Code.mul(sum, Code.num(10)), Code.var(v));
        }
        OutcomeKit kit = Checks.kitWith(Code.give(sum));
        Checks.outcome("at the beginning", kit, 7, OutcomeKit.OK, 700000, -1);
        Checks.outcome("at the beginning", kit, 0, OutcomeKit.OK, 0, -1);
        int[] sets = Code.seq(Code.set(0, Code.num(1)), Code.set(5, Code.num(9)), Code.set(2, Code.var(0)),
            Code.set(0, Code.add(Code.var(0), Code.var(5))), Code.give(Code.add(Code.mul(Code.var(0), Code.num(10)), Code.var(2))));
        Checks.outcome("SET", Checks.kitWith(sets), 3, OutcomeKit.OK, 101, -1);
        OutcomeKit again = Checks.kitWith(Code.seq(Code.say(Code.var(4)), Code.set(4, Code.num(3))));
        Checks.outcome("the first time", again, 0, OutcomeKit.OK, 0, -1, 0);
        Checks.outcome("the second time", again, 0, OutcomeKit.OK, 0, -1, 0);
        int[] kept = Code.attempt(Code.set(0, Code.div(Code.num(1), Code.num(0))), Code.grab(1, 0, Code.say(Code.var(0))));
        Checks.outcome("SET whose E throws", Checks.kitWith(kept), 6, OutcomeKit.OK, 0, -1, 6);
        OutcomeKit apart = Checks.kitWith(Code.seq(Code.set(1, Code.num(4)), Code.set(2, Code.call(1, Code.num(8))),
            Code.say(Code.var(0)), Code.say(Code.var(1)), Code.say(Code.var(2))));
        Checks.give(apart, 1, Code.seq(Code.say(Code.var(1)), Code.set(1, Code.num(5)), Code.set(0, Code.num(6)), Code.give(Code.var(1))));
        Checks.outcome("each function has its own", apart, 2, OutcomeKit.OK, 0, -1, 0, 2, 4, 5);
    }

    private static void plainStatements() {
        for (int e : new int[] {0, 1, -1, LEAST}) {
            Checks.returns("IF " + e, Code.when(Code.num(e), Code.say(1), Code.say(2)), 0, e != 0 ? 1 : 2);
            Checks.returns("IF " + e + " and on", Code.seq(Code.when(Code.num(e), Code.skip(), Code.say(2)), Code.say(3)),
                0, e != 0 ? new int[] {3} : new int[] {2, 3});
        }
        Checks.returns("SEQ", Code.seq(Code.say(1), Code.say(2), Code.say(3)), 0, 1, 2, 3);
        Checks.returns("SEQ to the left", Code.seq(Code.seq(Code.say(1), Code.say(2)), Code.say(3)), 0, 1, 2, 3);
        Checks.returns("RETURN in SEQ", Code.seq(Code.say(1), Code.give(5), Code.say(3)), 5, 1);
        Checks.throwsOut("THROW in SEQ", Code.seq(Code.say(1), Code.raise(2, 5), Code.say(3)), 2, 5, 1);
        for (int k = 0; k < 4; k++) {
            Checks.throwsOut("THROW " + k, Code.raise(k, Code.add(Code.num(LEAST), Code.num(k))), k, LEAST + k);
        }
    }

    private static int[] count(int[] s) {
        return Code.seq(Code.set(0, Code.add(Code.var(0), Code.num(1))), s);
    }

    private static void loops() {
        int[] below3 = Code.less(Code.var(0), Code.num(3));
        int[] at2 = Code.not(Code.sub(Code.var(0), Code.num(2)));
        Checks.returns("WHILE 0", Code.loop(0, Code.num(0), Code.say(1)), 0);
        Checks.returns("WHILE", Code.seq(Code.loop(0, below3, count(Code.say(Code.var(0)))), Code.give(8)), 8, 1, 2, 3);
        Checks.returns("WHILE a negative E", Code.loop(0, Code.sub(Code.var(0), Code.num(2)), count(Code.say(9))), 0, 9, 9);
        Checks.returns("BREAK", Code.seq(Code.loop(3, Code.num(1), count(Code.seq(Code.when(at2, Code.leave(3), Code.skip()),
            Code.say(Code.var(0))))), Code.say(7)), 0, 1, 7);
        Checks.returns("CONTINUE", Code.seq(Code.loop(2, below3, count(Code.seq(Code.when(at2, Code.again(2), Code.skip()),
            Code.say(Code.var(0))))), Code.say(7)), 0, 1, 3, 7);
        int[] outer = Code.loop(0, below3, count(Code.seq(Code.loop(1, Code.num(1), Code.seq(Code.say(5), Code.leave(0))), Code.say(6))));
        Checks.returns("BREAK to the outer", outer, 0, 5);
        int[] next = Code.loop(0, below3, count(Code.seq(Code.loop(1, Code.num(1), Code.seq(Code.say(5), Code.again(0))), Code.say(6))));
        Checks.returns("CONTINUE the outer", next, 0, 5, 5, 5);
        int[] inner = Code.loop(1, below3, count(Code.seq(Code.loop(1, Code.num(1), Code.seq(Code.say(5), Code.leave(1))), Code.say(6))));
        Checks.returns("BREAK to the innermost of that label", inner, 0, 5, 6, 5, 6, 5, 6);
        Checks.returns("RETURN in WHILE", Code.loop(0, Code.num(1), Code.loop(1, Code.num(1), Code.give(4))), 4);
        Checks.throwsOut("THROW in WHILE", Code.loop(0, Code.num(1), Code.raise(0, 4)), 0, 4);
    }

    private static void calls() {
        OutcomeKit kit = Checks.kitWith(Code.seq(Code.say(Code.call(1, Code.num(5))), Code.say(Code.call(2, Code.num(6))),
            Code.give(Code.call(3, Code.add(Code.var(0), Code.num(1))))));
        Checks.give(kit, 1, Code.set(0, Code.num(3)));
        Checks.give(kit, 2, Code.loop(0, Code.num(1), Code.give(Code.mul(Code.var(0), Code.num(2)))));
        Checks.give(kit, 3, Code.give(Code.add(Code.call(2, Code.var(0)), Code.call(2, Code.var(0)))));
        Checks.outcome("CALL", kit, 1, OutcomeKit.OK, 8, -1, 0, 12);
        OutcomeKit loops = Checks.kitWith(Code.loop(0, Code.less(Code.var(0), Code.num(2)), Code.set(0, Code.add(Code.var(0),
            Code.call(1, Code.num(0))))));
        Checks.give(loops, 1, Code.seq(Code.loop(0, Code.num(1), Code.leave(0)), Code.say(3), Code.give(1)));
        Checks.outcome("the callee's BREAK is its own", loops, 0, OutcomeKit.OK, 0, -1, 3, 3);
    }

    private static void callsThatThrow() {
        OutcomeKit kit = Checks.kitWith(Code.attempt(Code.say(Code.add(Code.num(1), Code.call(1, Code.num(5)))),
            Code.grab(2, Code.ALL, Code.seq(Code.say(Code.var(2)), Code.say(Code.var(0)), Code.give(Code.call(2, Code.num(1)))))));
        Checks.give(kit, 1, Code.give(Code.call(2, Code.var(0))));
        Checks.give(kit, 2, Code.when(Code.less(Code.var(0), Code.num(2)), Code.give(77), Code.raise(3, Code.add(Code.var(0), Code.num(1)))));
        Checks.outcome("thrown through two", kit, 9, OutcomeKit.OK, 77, -1, 6, 9);
        Checks.due("drop(2)", kit.drop(2), true);
        Checks.outcome("no body below", kit, 9, OutcomeKit.THROWN, 2, 1, 2, 9);
    }

    private static void depth() {
        int[] down = Code.when(Code.var(0), Code.give(Code.add(Code.num(1), Code.call(0, Code.sub(Code.var(0), Code.num(1))))), Code.skip());
        OutcomeKit kit = Checks.kitWith(down);
        Checks.outcome("12 at work", kit, 11, OutcomeKit.OK, 11, -1);
        Checks.outcome("13 would be", kit, 12, OutcomeKit.THROWN, 0, 2);
        OutcomeKit other = Checks.kitWith(Code.give(Code.call(1, Code.num(0))));
        Checks.give(other, 1, Code.give(Code.call(0, Code.num(0))));
        Checks.outcome("two in turn", other, 0, OutcomeKit.THROWN, 0, 2);
        Checks.due("run(1, 0)", other.run(1, 0), OutcomeKit.THROWN);
        Checks.due("result()", other.result(), 1);
        Checks.give(other, 1, Code.give(Code.call(1, Code.num(0))));
        Checks.outcome("the value is the callee", other, 0, OutcomeKit.THROWN, 1, 2);
        int[] caught = Code.attempt(Code.seq(Code.set(1, Code.call(0, Code.add(Code.var(0), Code.num(1)))), Code.say(Code.var(0))),
            Code.grab(3, 2, Code.say(Code.add(Code.num(100), Code.var(0)))));
        Checks.outcome("in the function that calls", Checks.kitWith(caught), 1, OutcomeKit.OK, 0, -1,
            112, 11, 10, 9, 8, 7, 6, 5, 4, 3, 2, 1);
        int[] noBody = Code.when(Code.less(Code.var(0), Code.num(11)), Code.give(Code.call(0, Code.add(Code.var(0), Code.num(1)))),
            Code.give(Code.call(3, Code.num(0))));
        Checks.outcome("no body while 12 are at work", Checks.kitWith(noBody), 0, OutcomeKit.THROWN, 3, 1);
    }
}
