/** Terms: what expressions give at the ends of the ints, at 0 and around it, and in which order operands are worked out. */
public final class ArithmeticTest {
    private static final int LEAST = Integer.MIN_VALUE, MOST = Integer.MAX_VALUE;
    private static final int[] EDGES = {LEAST, LEAST + 1, -65536, -46341, -2, -1, 0, 1, 2, 46340, 46341, 65536, MOST - 1, MOST};

    public static void main(String[] args) {
        addWraps();
        subWraps();
        mulWraps();
        wrapsInBetween();
        less();
        not();
        divRoundsTowardsZero();
        leastByMinusOne();
        divByZero();
        divAtTheEnds();
        allPairs();
        fromTheFirstToTheLast();
        aThrowStopsTheRest();
        Checks.end("ArithmeticTest");
    }

    private static void value(String what, int[] e, int want) {
        Checks.returns(what, Code.give(e), want);
    }

    private static void add(int a, int b, int want) {
        value(a + " + " + b, Code.add(Code.num(a), Code.num(b)), want);
    }

    private static void sub(int a, int b, int want) {
        value(a + " - " + b, Code.sub(Code.num(a), Code.num(b)), want);
    }

    private static void mul(int a, int b, int want) {
        value(a + " * " + b, Code.mul(Code.num(a), Code.num(b)), want);
    }

    private static void div(int a, int b, int want) {
        value(a + " / " + b, Code.div(Code.num(a), Code.num(b)), want);
    }

    private static void addWraps() {
        Checks.about("Promise 6, Terms", "arithmetic wraps");
        add(MOST - 1, 1, 2147483647);
        add(MOST, 0, 2147483647);
        add(MOST, 1, -2147483648);
        add(MOST, MOST, -2);
        add(LEAST + 1, -1, -2147483648);
        add(LEAST, -1, 2147483647);
        add(LEAST, LEAST, 0);
    }

    private static void subWraps() {
        Checks.about("Promise 6, Terms", "arithmetic wraps");
        sub(LEAST + 1, 1, -2147483648);
        sub(LEAST, 0, -2147483648);
        sub(LEAST, 1, 2147483647);
        sub(MOST, -1, -2147483648);
        sub(0, MOST, -2147483647);
        sub(0, LEAST, -2147483648);
        sub(-1, LEAST, 2147483647);
    }

    private static void mulWraps() {
        Checks.about("Promise 6, Terms", "arithmetic wraps");
        mul(46340, 46340, 2147395600);
        mul(46341, 46341, -2147479015);
        mul(65536, 32767, 2147418112);
        mul(65536, 32768, -2147483648);
        mul(65536, 65536, 0);
        mul(65537, 65537, 131073);
        mul(MOST, 2, -2);
        mul(LEAST, -1, -2147483648);
        mul(LEAST, 2, 0);
        mul(MOST, MOST, 1);
        mul(LEAST, LEAST, 0);
    }

    private static void wrapsInBetween() {
        Checks.about("Promise 6, Terms", "arithmetic wraps");
        int[] beyond = Code.add(Code.num(MOST), Code.num(1));
        value("beyond and back", Code.sub(beyond, Code.num(1)), MOST);
        value("half of what is beyond", Code.div(beyond, Code.num(2)), -1073741824);
        value("what is beyond is less", Code.less(beyond, Code.num(0)), 1);
        Checks.outcome("the argument wraps", Checks.kitWith(Code.give(Code.add(Code.var(0), Code.var(0)))), 1 << 30, OutcomeKit.OK, LEAST, -1);
        Checks.throwsOut("a value thrown wraps", Code.raise(1, beyond), 1, LEAST);
        Checks.returns("an output wraps", Code.say(beyond), 0, LEAST);
    }

    private static void less() {
        Checks.about("Promise 6, Terms", "LESS 1 or 0");
        int[][] below = {{LEAST, MOST}, {LEAST, LEAST + 1}, {LEAST, 0}, {LEAST, 1}, {-1, 0}, {0, 1}, {-2, MOST}, {MOST - 1, MOST}};
        for (int[] pair : below) {
            value(pair[0] + " < " + pair[1], Code.less(Code.num(pair[0]), Code.num(pair[1])), 1);
            value(pair[1] + " < " + pair[0], Code.less(Code.num(pair[1]), Code.num(pair[0])), 0);
        }
        for (int same : EDGES) {
            value(same + " < " + same, Code.less(Code.num(same), Code.num(same)), 0);
        }
    }

    private static void not() {
        Checks.about("Promise 6, Terms", "NOT (E is 0) 1 or 0");
        for (int n : EDGES) {
            value("NOT " + n, Code.not(Code.num(n)), n == 0 ? 1 : 0);
            value("NOT NOT " + n, Code.not(Code.not(Code.num(n))), n == 0 ? 0 : 1);
        }
    }

    private static void divRoundsTowardsZero() {
        Checks.about("Promise 6, Terms", "DIV rounds towards 0");
        div(6, 3, 2);
        div(7, 2, 3);
        div(-7, 2, -3);
        div(7, -2, -3);
        div(-7, -2, 3);
        div(1, 2, 0);
        div(-1, 2, 0);
        div(1, -2, 0);
        div(2, 3, 0);
        div(-2, 3, 0);
        div(0, 5, 0);
        div(0, -5, 0);
    }

    private static void leastByMinusOne() {
        Checks.about("Promise 6, Terms", "DIV (-2147483648 by -1: itself)");
        div(LEAST, -1, -2147483648);
        div(LEAST + 1, -1, 2147483647);
        div(LEAST, 1, -2147483648);
        div(LEAST, -2, 1073741824);
        div(MOST, -1, -2147483647);
    }

    private static void divByZero() {
        Checks.about("Promise 6, Terms", "DIV by 0 throws kind 0 with the first operand");
        for (int n : EDGES) {
            div(n, 1, n);
            Checks.throwsOut(n + " / 0", Code.give(Code.div(Code.num(n), Code.num(0))), 0, n);
        }
        Checks.throwsOut("a 0 that was worked out", Code.say(Code.div(Code.num(9), Code.not(Code.num(3)))), 0, 9);
        Checks.throwsOut("an operand that was worked out", Code.give(Code.div(Code.add(Code.num(3), Code.num(4)), Code.num(0))), 0, 7);
        Checks.throwsOut("with more around it", Code.give(Code.add(Code.num(1), Code.mul(Code.num(2), Code.div(Code.num(9), Code.num(0))))), 0, 9);
    }

    private static void divAtTheEnds() {
        Checks.about("Promise 6, Terms", "DIV rounds towards 0");
        div(LEAST, LEAST, 1);
        div(LEAST, MOST, -1);
        div(MOST, LEAST, 0);
        div(MOST, MOST, 1);
        div(1, LEAST, 0);
        div(LEAST + 1, LEAST, 0);
    }

    private static void allPairs() {
        Checks.about("Promise 6, Terms", "arithmetic wraps; LESS, NOT 1 or 0; DIV rounds towards 0");
        for (int a : EDGES) {
            OutcomeKit kit = Checks.kitWith(Code.give(Code.add(Code.num(a), Code.var(0))), Code.give(Code.sub(Code.num(a), Code.var(0))),
                Code.give(Code.mul(Code.num(a), Code.var(0))), Code.give(Code.less(Code.num(a), Code.var(0))));
            for (int b : EDGES) {
                Checks.outcomeOf(0, a + " + it", kit, b, OutcomeKit.OK, (int) ((long) a + b), -1);
                Checks.outcomeOf(1, a + " - it", kit, b, OutcomeKit.OK, (int) ((long) a - b), -1);
                Checks.outcomeOf(2, a + " * it", kit, b, OutcomeKit.OK, (int) ((long) a * b), -1);
                Checks.outcomeOf(3, a + " < it", kit, b, OutcomeKit.OK, a < b ? 1 : 0, -1);
                if (b != 0) {
                    div(a, b, (int) ((long) a / b));
                }
            }
        }
    }

    private static OutcomeKit withTeller(int[] body) {
        return Checks.kitWith(body, Code.seq(Code.say(Code.var(0)), Code.give(Code.var(0))));
    }

    private static void fromTheFirstToTheLast() {
        Checks.about("Promise 6, Terms", "Operands are worked out from the first to the last");
        int[] one = Code.call(1, Code.num(1));
        int[] two = Code.call(1, Code.num(2));
        int[] none = Code.call(1, Code.num(0));
        Checks.outcome("ADD", withTeller(Code.give(Code.add(one, two))), 0, OutcomeKit.OK, 3, -1, 1, 2);
        Checks.outcome("SUB", withTeller(Code.give(Code.sub(one, two))), 0, OutcomeKit.OK, -1, -1, 1, 2);
        Checks.outcome("MUL by 0", withTeller(Code.give(Code.mul(none, two))), 0, OutcomeKit.OK, 0, -1, 0, 2);
        Checks.outcome("LESS", withTeller(Code.give(Code.less(one, two))), 0, OutcomeKit.OK, 1, -1, 1, 2);
        Checks.outcome("DIV", withTeller(Code.give(Code.div(two, one))), 0, OutcomeKit.OK, 2, -1, 2, 1);
        Checks.outcome("DIV by 0", withTeller(Code.give(Code.div(two, none))), 0, OutcomeKit.THROWN, 2, 0, 2, 0);
        Checks.outcome("nested", withTeller(Code.give(Code.sub(Code.sub(two, one), Code.sub(none, two)))), 0, OutcomeKit.OK, 3, -1, 2, 1, 0, 2);
    }

    private static void aThrowStopsTheRest() {
        Checks.about("Promise 6, Terms", "Operands are worked out from the first to the last; DIV by 0 throws");
        int[] one = Code.call(1, Code.num(1));
        int[] broken = Code.div(Code.num(8), Code.num(0));
        Checks.outcome("the first throws", withTeller(Code.give(Code.add(broken, one))), 0, OutcomeKit.THROWN, 8, 0);
        Checks.outcome("the second throws", withTeller(Code.give(Code.add(one, broken))), 0, OutcomeKit.THROWN, 8, 0, 1);
        Checks.outcome("both throw", withTeller(Code.give(Code.div(broken, Code.div(Code.num(9), Code.num(0))))), 0, OutcomeKit.THROWN, 8, 0);
        Checks.outcome("CALL's E throws", withTeller(Code.give(Code.call(1, broken))), 0, OutcomeKit.THROWN, 8, 0);
        Checks.outcome("E throws before no body", withTeller(Code.give(Code.call(3, broken))), 0, OutcomeKit.THROWN, 8, 0);
        Checks.throwsOut("THROW's E throws", Code.raise(3, broken), 0, 8);
        Checks.throwsOut("SAY's E throws", Code.say(broken), 0, 8);
        Checks.throwsOut("RETURN's E throws", Code.give(broken), 0, 8);
        Checks.throwsOut("IF's E throws", Code.when(broken, Code.say(1), Code.say(2)), 0, 8);
        Checks.throwsOut("WHILE's E throws", Code.loop(0, broken, Code.say(1)), 0, 8);
        Checks.throwsOut("NOT's E throws", Code.give(Code.not(broken)), 0, 8);
    }
}
