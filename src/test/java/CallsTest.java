/** Terms: CALL, functions without a body, and the 12 that can be at work. */
public final class CallsTest {
    public static void main(String[] args) {
        whatItReturns();
        zeroIfItEndsNormally();
        whatItThrows();
        everyFunction();
        noBody();
        noBodyCanBeCaught();
        theArgumentComesFirst();
        twelveAtWork();
        theValueIsTheCallee();
        inTheFunctionThatCalls();
        twelveAtWorkAgain();
        oneAfterTheOther();
        atFirstInNone();
        noBodyWhileTwelveAreAtWork();
        finallyPartsOfTwelve();
        Checks.end("CallsTest");
    }

    private static void whatItReturns() {
        Checks.about("Promise 6, Terms", "CALL f: what f returns");
        int[] doubled = Code.loop(0, Code.num(1), Code.give(Code.mul(Code.var(0), Code.num(2))));
        OutcomeKit kit = Checks.kitWith(Code.give(Code.call(1, Code.var(0))), doubled,
            Code.give(Code.add(Code.call(1, Code.var(0)), Code.call(1, Code.call(1, Code.var(0))))));
        for (int a : new int[] {-1, 0, 1, 1 << 30}) {
            Checks.outcome("CALL", kit, a, OutcomeKit.OK, 2 * a, -1);
        }
        Checks.outcomeOf(2, "CALL in CALL", kit, 5, OutcomeKit.OK, 30, -1);
    }

    private static void zeroIfItEndsNormally() {
        Checks.about("Promise 6, Terms", "CALL f: what f returns (0 if its body ends normally)");
        OutcomeKit kit = Checks.kitWith(Code.seq(Code.say(Code.call(1, Code.num(5))), Code.say(Code.call(2, Code.num(6)))),
            Code.set(0, Code.num(3)), Code.say(Code.call(3, Code.num(1))), Code.give(9));
        Checks.outcome("after SET, after SAY", kit, 1, OutcomeKit.OK, 0, -1, 0, 9, 0);
    }

    private static void whatItThrows() {
        Checks.about("Promise 6, Terms", "CALL f: or it throws what f's body throws");
        for (int k = 0; k < 4; k++) {
            OutcomeKit kit = Checks.kitWith(Code.attempt(Code.say(Code.add(Code.num(1), Code.call(1, Code.num(5)))),
                Code.grab(2, k, Code.seq(Code.say(Code.var(2)), Code.say(Code.var(0)), Code.give(7)))),
                Code.give(Code.call(2, Code.var(0))), Code.raise(k, Code.add(Code.var(0), Code.num(1))));
            Checks.outcome("THROW " + k + " through two", kit, 9, OutcomeKit.OK, 7, -1, 6, 9);
            Checks.outcomeOf(1, "THROW " + k + " through one", kit, 9, OutcomeKit.THROWN, 10, k);
        }
    }

    private static void everyFunction() {
        Checks.about("Promise 6, Terms", "FUNCTIONS 0..3; f 0..3");
        OutcomeKit kit = Checks.kitWith(Code.give(10), Code.give(11), Code.give(12), Code.give(13));
        for (int f = 0; f < 4; f++) {
            int caller = (f + 1) % 4;
            Checks.give(kit, caller, Code.give(Code.call(f, Code.num(0))));
            Checks.outcomeOf(caller, "CALL " + f, kit, 0, OutcomeKit.OK, 10 + f, -1);
            Checks.give(kit, caller, Code.give(10 + caller));
        }
    }

    private static void noBody() {
        Checks.about("Promise 6, Terms", "If f has no body, it throws kind 1 with the value f");
        for (int f = 1; f < 4; f++) {
            OutcomeKit kit = Checks.kitWith(Code.say(Code.call(f, Code.num(9))));
            Checks.outcome("never had one", kit, 0, OutcomeKit.THROWN, f, 1);
            Checks.give(kit, f, Code.give(6));
            Checks.outcome("has one", kit, 0, OutcomeKit.OK, 0, -1, 6);
            Checks.due("drop(" + f + ")", kit.drop(f), true);
            Checks.outcome("lost it", kit, 0, OutcomeKit.THROWN, f, 1);
        }
        OutcomeKit kit = new OutcomeKit();
        Checks.give(kit, 3, Code.say(Code.call(0, Code.num(9))));
        Checks.outcomeOf(3, "function 0", kit, 0, OutcomeKit.THROWN, 0, 1);
    }

    private static void noBodyCanBeCaught() {
        Checks.about("Promise 6, Terms", "If f has no body, it throws kind 1 with the value f, in the function that calls");
        Checks.returns("CATCH 1", Code.attempt(Code.say(Code.call(3, Code.num(9))), Code.grab(5, 1, Code.say(Code.var(5)))), 0, 3);
        Checks.throwsOut("CATCH 2", Code.attempt(Code.say(Code.call(3, Code.num(9))), Code.grab(5, 2, Code.say(Code.var(5)))), 1, 3);
        OutcomeKit kit = Checks.kitWith(Code.attempt(Code.give(Code.call(1, Code.num(7))), Code.grab(5, 1, Code.say(Code.var(0)))),
            Code.attempt(Code.give(Code.call(2, Code.num(8))), Code.grab(5, 1, Code.say(Code.var(0)))));
        Checks.outcome("the caller of no body catches it", kit, 6, OutcomeKit.OK, 0, -1, 7);
    }

    private static void theArgumentComesFirst() {
        Checks.about("Promise 6, Terms", "Operands are worked out; If f has no body, it throws kind 1");
        OutcomeKit kit = Checks.kitWith(Code.give(Code.call(3, Code.call(1, Code.num(1)))), Code.say(Code.var(0)));
        Checks.outcome("SAY in E, then no body", kit, 0, OutcomeKit.THROWN, 3, 1, 1);
    }

    /** Calls itself until its argument is 0 and gives the argument back. */
    private static int[] down() {
        return Code.when(Code.var(0), Code.give(Code.add(Code.num(1), Code.call(0, Code.sub(Code.var(0), Code.num(1))))), Code.skip());
    }

    private static void twelveAtWork() {
        Checks.about("Promise 6, Terms", "if a function would begin while 12 are at work, kind 2 with the value f");
        OutcomeKit kit = Checks.kitWith(down());
        for (int depth = 0; depth < 12; depth++) {
            Checks.outcome("1 + " + depth + " at work", kit, depth, OutcomeKit.OK, depth, -1);
        }
        for (int depth = 12; depth < 15; depth++) {
            Checks.outcome("1 + " + depth + " would be", kit, depth, OutcomeKit.THROWN, 0, 2);
        }
    }

    private static void theValueIsTheCallee() {
        Checks.about("Promise 6, Terms", "kind 2 with the value f");
        for (int f = 0; f < 4; f++) {
            OutcomeKit kit = new OutcomeKit();
            Checks.give(kit, f, Code.give(Code.call(f, Code.num(50))));
            Checks.outcomeOf(f, "it calls itself", kit, 60, OutcomeKit.THROWN, f, 2);
        }
        OutcomeKit turns = Checks.kitWith(Code.give(Code.call(1, Code.num(0))), Code.give(Code.call(0, Code.num(0))));
        Checks.outcomeOf(0, "two in turn", turns, 0, OutcomeKit.THROWN, 0, 2);
        Checks.outcomeOf(1, "two in turn", turns, 0, OutcomeKit.THROWN, 1, 2);
    }

    private static void inTheFunctionThatCalls() {
        Checks.about("Promise 6, Terms", "kind 2 with the value f, in the function that calls");
        int[] caught = Code.attempt(Code.seq(Code.set(1, Code.call(0, Code.add(Code.var(0), Code.num(1)))), Code.say(Code.var(0))),
            Code.grab(3, 2, Code.say(Code.add(Code.num(100), Code.var(0)))));
        Checks.outcome("the twelfth catches it", Checks.kitWith(caught), 1, OutcomeKit.OK, 0, -1,
            112, 11, 10, 9, 8, 7, 6, 5, 4, 3, 2, 1);
    }

    private static void twelveAtWorkAgain() {
        Checks.about("Promise 6, Terms", "if a function would begin while 12 are at work");
        int[] tries = Code.loop(0, Code.less(Code.var(1), Code.num(3)), Code.seq(Code.count(1),
            Code.attempt(Code.say(Code.call(0, Code.var(0))), Code.grab(2, 2, Code.say(77)))));
        OutcomeKit kit = Checks.kitWith(down(), tries);
        Checks.outcomeOf(1, "eleven below, three times", kit, 10, OutcomeKit.OK, 0, -1, 10, 10, 10);
        Checks.outcomeOf(1, "twelve below, three times", kit, 11, OutcomeKit.OK, 0, -1, 77, 77, 77);
        Checks.outcomeOf(1, "eleven below again", kit, 10, OutcomeKit.OK, 0, -1, 10, 10, 10);
        int[] both = Code.attempt(Code.say(Code.call(0, Code.num(11))), Code.grab(2, 2, Code.say(Code.call(0, Code.num(10)))));
        Checks.give(kit, 1, both);
        Checks.outcomeOf(1, "eleven below after twelve below", kit, 0, OutcomeKit.OK, 0, -1, 10);
    }

    private static void oneAfterTheOther() {
        Checks.about("Promise 6, Terms", "while 12 are at work");
        OutcomeKit kit = Checks.kitWith(Code.loop(0, Code.less(Code.var(0), Code.num(50)), Code.set(0, Code.call(1, Code.var(0)))),
            Code.give(Code.add(Code.var(0), Code.num(1))));
        Checks.outcome("fifty that end", kit, 0, OutcomeKit.OK, 0, -1);
        Checks.give(kit, 1, Code.raise(3, Code.add(Code.var(0), Code.num(1))));
        Checks.give(kit, 0, Code.loop(0, Code.less(Code.var(0), Code.num(50)),
            Code.attempt(Code.set(1, Code.call(1, Code.var(0))), Code.grab(0, 3, Code.skip()))));
        Checks.outcome("fifty that throw", kit, 0, OutcomeKit.OK, 0, -1);
        Checks.give(kit, 0, Code.loop(0, Code.less(Code.var(0), Code.num(50)),
            Code.attempt(Code.set(1, Code.call(2, Code.var(0))), Code.grab(2, 1, Code.count(0)))));
        Checks.outcome("fifty without a body", kit, 0, OutcomeKit.OK, 0, -1);
    }

    private static void atFirstInNone() {
        Checks.about("Promise 6, Terms", "in the function that calls (at first: in none)");
        OutcomeKit kit = Checks.kitWith(Code.attempt(Code.skip(), Code.grab(0, 4, Code.say(1))));
        Checks.outcomeOf(1, "no body", kit, 0, OutcomeKit.THROWN, 1, 1);
    }

    private static void noBodyWhileTwelveAreAtWork() {
        Checks.about("Promise 6, Terms", "If f has no body, it throws kind 1; if a function would begin while 12 are at work, kind 2");
        int[] code = Code.when(Code.var(0), Code.give(Code.call(0, Code.sub(Code.var(0), Code.num(1)))), Code.give(Code.call(3, Code.num(0))));
        OutcomeKit kit = Checks.kitWith(code);
        Checks.outcome("11 at work", kit, 10, OutcomeKit.THROWN, 3, 1);
        Checks.outcome("12 at work", kit, 11, OutcomeKit.THROWN, 3, 1);
        Checks.outcome("13 would be", kit, 12, OutcomeKit.THROWN, 0, 2);
    }

    private static void finallyPartsOfTwelve() {
        Checks.about("Promise 6, Terms", "With a finally part that is done then, however the rest ended");
        int[] every = Code.ensure(Code.give(Code.call(0, Code.add(Code.var(0), Code.num(1)))), Code.say(Code.var(0)));
        Checks.outcome("each of the twelve", Checks.kitWith(every), 1, OutcomeKit.THROWN, 0, 2,
            12, 11, 10, 9, 8, 7, 6, 5, 4, 3, 2, 1);
        int[] deep = Code.call(0, Code.num(1));
        for (int i = 0; i < 37; i++) {
            deep = Code.not(deep);
        }
        Checks.outcome("40 tokens begun in each of the twelve", Checks.kitWith(Code.say(deep)), 0, OutcomeKit.THROWN, 0, 2);
    }
}
