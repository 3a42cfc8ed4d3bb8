/** Promise 7: what the latest run gave, or the value that it threw. */
public final class ResultTest {
    private static final int[] VALUES = {Integer.MIN_VALUE, Integer.MIN_VALUE + 1, -1, 0, 1, Integer.MAX_VALUE};

    public static void main(String[] args) {
        noneYet();
        gave();
        gaveNothing();
        threw();
        afterLong();
        latest();
        refusedRun();
        Checks.end("ResultTest");
    }

    private static void after(String what, OutcomeKit kit, int f, int a, int answer, int result) {
        Checks.due(what + ": run(" + f + ", " + a + ")", kit.run(f, a), answer);
        Checks.due(what + ": result()", kit.result(), result);
        Checks.due(what + ": result() again", kit.result(), result);
    }

    private static void noneYet() {
        Checks.about("Promise 7", "0 if there was none");
        OutcomeKit kit = new OutcomeKit();
        Checks.due("result()", kit.result(), 0);
        after("only BAD", kit, 4, 7, OutcomeKit.BAD, 0);
        Checks.give(kit, 0, Code.give(5));
        Checks.due("result() before a run", kit.result(), 0);
    }

    private static void gave() {
        Checks.about("Promise 7", "What the latest run gave");
        OutcomeKit kit = Checks.kitWith(Code.give(Code.var(0)));
        for (int value : VALUES) {
            after("RETURN " + value, kit, 0, value, OutcomeKit.OK, value);
        }
    }

    private static void gaveNothing() {
        Checks.about("Promise 7 and Terms", "0 if its body ends normally");
        OutcomeKit kit = Checks.kitWith(Code.set(1, Code.var(0)), Code.give(5));
        after("RETURN", kit, 1, 0, OutcomeKit.OK, 5);
        after("a normal end", kit, 0, 9, OutcomeKit.OK, 0);
        Checks.give(kit, 0, Code.say(Code.call(1, Code.num(7))));
        after("a normal end behind what a CALL gave", kit, 0, 9, OutcomeKit.OK, 0);
    }

    private static void threw() {
        Checks.about("Promise 7", "or the value that it threw");
        OutcomeKit kit = Checks.kitWith(Code.raise(3, Code.var(0)), Code.say(Code.div(Code.var(0), Code.num(0))));
        for (int value : VALUES) {
            after("THROW " + value, kit, 0, value, OutcomeKit.THROWN, value);
            after("DIV " + value + " by 0", kit, 1, value, OutcomeKit.THROWN, value);
        }
        after("no body", kit, 2, 9, OutcomeKit.THROWN, 2);
        after("no body", kit, 3, 9, OutcomeKit.THROWN, 3);
    }

    private static void afterLong() {
        Checks.about("Promise 7", "0 after LONG");
        int[] forever = Code.loop(0, Code.num(1), Code.set(1, Code.num(5)));
        OutcomeKit kit = Checks.kitWith(Code.give(8), forever, Code.ensure(Code.give(7), forever), Code.ensure(Code.raise(2, 6), forever));
        for (int f = 1; f < 4; f++) {
            after("RETURN", kit, 0, 0, OutcomeKit.OK, 8);
            after("LONG", kit, f, 9, OutcomeKit.LONG, 0);
        }
    }

    private static void latest() {
        Checks.about("Promise 7", "the latest run");
        OutcomeKit kit = Checks.kitWith(Code.give(5), Code.raise(1, 6), Code.skip());
        after("RETURN", kit, 0, 0, OutcomeKit.OK, 5);
        after("THROW after RETURN", kit, 1, 0, OutcomeKit.THROWN, 6);
        after("an end after THROW", kit, 2, 0, OutcomeKit.OK, 0);
        after("RETURN after an end", kit, 0, 0, OutcomeKit.OK, 5);
        Checks.due("drop(0)", kit.drop(0), true);
        Checks.give(kit, 0, Code.give(4));
        Checks.due("result() after drop and define", kit.result(), 5);
    }

    private static void refusedRun() {
        Checks.about("Promises 6 and 7", "BAD (and nothing changes)");
        OutcomeKit kit = Checks.kitWith(Code.give(5), Code.raise(1, 6));
        after("RETURN", kit, 0, 0, OutcomeKit.OK, 5);
        after("BAD after RETURN", kit, 4, 0, OutcomeKit.BAD, 5);
        after("THROW", kit, 1, 0, OutcomeKit.THROWN, 6);
        after("BAD after THROW", kit, -1, 0, OutcomeKit.BAD, 6);
    }
}
