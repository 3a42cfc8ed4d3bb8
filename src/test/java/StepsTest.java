/** Promise 9 and the term STEPS: what takes a step, and that 300 are the most. */
public final class StepsTest {
    public static void main(String[] args) {
        noneYet();
        latest();
        functionsThatBegin();
        noBodyDoesNotBegin();
        beforeTheTwelveAreLookedAt();
        whileExpressions();
        whileExpressionsThatThrow();
        onlyTheseTakeOne();
        threeHundredByLoops();
        threeHundredByFunctions();
        threeHundredAtACall();
        threeHundredWithTwelveAtWork();
        noBodyAfterThreeHundred();
        overAtOnce();
        overInAnOperand();
        nothingOfLongGoesOn();
        Checks.end("StepsTest");
    }

    private static void noneYet() {
        Checks.about("Promise 9", "How many STEPS the latest run took");
        OutcomeKit kit = new OutcomeKit();
        Checks.due("steps()", kit.steps(), 0);
        Checks.steps("only BAD", kit, 4, 0, OutcomeKit.BAD, 0);
    }

    private static void latest() {
        Checks.about("Promise 9", "the latest run");
        OutcomeKit kit = Checks.kitWith(Code.countdown());
        Checks.steps("seven", kit, 0, 5, OutcomeKit.OK, 7);
        Checks.steps("BAD", kit, -1, 5, OutcomeKit.BAD, 7);
        Checks.steps("three", kit, 0, 1, OutcomeKit.OK, 3);
        Checks.steps("no body", kit, 1, 1, OutcomeKit.THROWN, 0);
        Checks.steps("all", kit, 0, -1, OutcomeKit.LONG, 300);
        Checks.steps("two", kit, 0, 0, OutcomeKit.OK, 2);
    }

    private static void functionsThatBegin() {
        Checks.about("Promise 9 and Terms", "STEPS: each function that begins takes one");
        OutcomeKit kit = Checks.kitWith(Code.skip(), Code.say(Code.call(0, Code.num(1))),
            Code.say(Code.add(Code.call(0, Code.num(1)), Code.call(0, Code.num(2)))), Code.raise(1, Code.call(2, Code.call(1, Code.num(0)))));
        Checks.steps("one function", kit, 0, 0, OutcomeKit.OK, 1);
        Checks.steps("one CALL", kit, 1, 0, OutcomeKit.OK, 2);
        Checks.steps("two CALLs", kit, 2, 0, OutcomeKit.OK, 3);
        Checks.steps("CALLs in CALLs, and THROW", kit, 3, 0, OutcomeKit.THROWN, 6);
    }

    private static void noBodyDoesNotBegin() {
        Checks.about("Promise 9 and Terms", "STEPS: each function that begins; If f has no body, it throws kind 1");
        OutcomeKit kit = Checks.kitWith(Code.give(Code.call(3, Code.num(0))));
        Checks.steps("run of no body", kit, 3, 0, OutcomeKit.THROWN, 0);
        Checks.steps("CALL of no body", kit, 0, 0, OutcomeKit.THROWN, 1);
    }

    private static void beforeTheTwelveAreLookedAt() {
        Checks.about("Promise 9 and Terms", "each function that begins (before the 12 are looked at)");
        OutcomeKit kit = Checks.kitWith(Code.when(Code.var(0), Code.give(Code.call(0, Code.sub(Code.var(0), Code.num(1)))), Code.skip()));
        Checks.steps("eleven", kit, 0, 10, OutcomeKit.OK, 11);
        Checks.steps("twelve", kit, 0, 11, OutcomeKit.OK, 12);
        Checks.steps("the thirteenth takes one", kit, 0, 12, OutcomeKit.THROWN, 13);
        Checks.steps("there is no fourteenth", kit, 0, 13, OutcomeKit.THROWN, 13);
    }

    private static void whileExpressions() {
        Checks.about("Promise 9 and Terms", "each time that the E of a WHILE is begun takes one");
        OutcomeKit kit = Checks.kitWith(Code.countdown());
        for (int turns : new int[] {0, 1, 2, 5, 100}) {
            Checks.steps(turns + " turns", kit, 0, turns, OutcomeKit.OK, turns + 2);
        }
        Checks.give(kit, 0, Code.loop(0, Code.num(1), Code.leave(0)));
        Checks.steps("BREAK", kit, 0, 0, OutcomeKit.OK, 2);
        Checks.give(kit, 0, Code.loop(0, Code.var(0), Code.seq(Code.set(0, Code.num(0)), Code.again(0))));
        Checks.steps("CONTINUE", kit, 0, 1, OutcomeKit.OK, 3);
        Checks.give(kit, 0, Code.loop(0, Code.num(1), Code.give(1)));
        Checks.steps("RETURN", kit, 0, 1, OutcomeKit.OK, 2);
        int[] inner = Code.loop(1, Code.less(Code.var(1), Code.num(2)), Code.count(1));
        Checks.give(kit, 0, Code.loop(0, Code.less(Code.var(0), Code.num(2)), Code.seq(Code.count(0), Code.set(1, Code.num(0)), inner)));
        Checks.steps("WHILE in WHILE", kit, 0, 0, OutcomeKit.OK, 1 + 3 + 2 * 3);
        int[] outer = Code.loop(0, Code.less(Code.var(0), Code.num(2)), Code.seq(Code.count(0), Code.loop(1, Code.num(1), Code.again(0))));
        Checks.give(kit, 0, outer);
        Checks.steps("CONTINUE the outer", kit, 0, 0, OutcomeKit.OK, 1 + 3 + 2);
    }

    private static void whileExpressionsThatThrow() {
        Checks.about("Promise 9 and Terms", "each time that the E of a WHILE is begun");
        OutcomeKit kit = Checks.kitWith(Code.loop(0, Code.div(Code.num(1), Code.num(0)), Code.skip()));
        Checks.steps("DIV by 0", kit, 0, 0, OutcomeKit.THROWN, 2);
        Checks.give(kit, 0, Code.loop(0, Code.call(2, Code.num(0)), Code.skip()));
        Checks.steps("CALL of no body", kit, 0, 0, OutcomeKit.THROWN, 2);
        Checks.give(kit, 1, Code.skip());
        Checks.give(kit, 0, Code.loop(0, Code.call(1, Code.num(0)), Code.skip()));
        Checks.steps("CALL", kit, 0, 0, OutcomeKit.OK, 3);
    }

    private static void onlyTheseTakeOne() {
        Checks.about("Promise 9 and Terms", "STEPS: each function that begins and each time that the E of a WHILE is begun");
        int[] busy = Code.ensure(Code.seq(Code.say(Code.not(Code.num(1))), Code.when(Code.var(0), Code.skip(), Code.raise(1, 2))),
            Code.grab(1, 1, Code.set(2, Code.add(Code.var(1), Code.num(1)))), Code.seq(Code.say(1), Code.say(2)));
        OutcomeKit kit = Checks.kitWith(busy);
        Checks.steps("all else", kit, 0, 0, OutcomeKit.OK, 1);
        Checks.steps("all else", kit, 0, 1, OutcomeKit.OK, 1);
    }

    private static void threeHundredByLoops() {
        Checks.about("Promise 9 and Terms", "if 300 are taken and another one would be, all is over at once: LONG");
        OutcomeKit kit = Checks.kitWith(Code.seq(Code.countdown(), Code.say(5), Code.give(6)));
        for (int steps = 297; steps <= 300; steps++) {
            Checks.steps("up to " + steps, kit, 0, steps - 2, OutcomeKit.OK, steps);
            Checks.due("result()", kit.result(), 6);
            Checks.due("says()", kit.says(), 1);
        }
        for (int steps = 301; steps <= 304; steps++) {
            Checks.steps("beyond, " + steps, kit, 0, steps - 2, OutcomeKit.LONG, 300);
            Checks.due("result()", kit.result(), 0);
            Checks.due("kind()", kit.kind(), -1);
            Checks.due("says()", kit.says(), 0);
        }
    }

    /** An E that calls function f so many times: 3 n - 1 tokens. */
    private static int[] calls(int n, int f, int[] argument) {
        int[] code = Code.call(f, argument);
        for (int i = 1; i < n; i++) {
            code = Code.add(code, Code.call(f, Code.num(0)));
        }
        return code;
    }

    private static void threeHundredByFunctions() {
        Checks.about("Promise 9 and Terms", "if 300 are taken and another one would be, all is over at once: LONG");
        OutcomeKit kit = Checks.kitWith(Code.say(calls(13, 1, Code.num(0))), Code.give(calls(11, 2, Code.num(0))),
            Code.give(Code.call(3, Code.num(0))), Code.skip());
        Checks.steps("1 + 13 (1 + 11 (1 + 1))", kit, 0, 0, OutcomeKit.OK, 300);
        Checks.due("says()", kit.says(), 1);
        Checks.give(kit, 0, Code.say(calls(13, 1, Code.call(3, Code.num(0)))));
        Checks.steps("and one more", kit, 0, 0, OutcomeKit.LONG, 300);
        Checks.due("says()", kit.says(), 0);
    }

    private static void threeHundredAtACall() {
        Checks.about("Promise 9 and Terms", "if 300 are taken and another one would be, all is over at once: LONG");
        OutcomeKit kit = Checks.kitWith(Code.seq(Code.countdown(), Code.give(Code.call(1, Code.num(4)))), Code.give(Code.var(0)));
        Checks.steps("the 299th", kit, 0, 296, OutcomeKit.OK, 299);
        Checks.steps("the 300th begins", kit, 0, 297, OutcomeKit.OK, 300);
        Checks.due("result()", kit.result(), 4);
        Checks.steps("the 301st does not", kit, 0, 298, OutcomeKit.LONG, 300);
        Checks.due("result()", kit.result(), 0);
    }

    /** Twelve functions at work, the last of which takes the rest of the steps and then calls function 0. */
    private static OutcomeKit deep() {
        int[] down = Code.when(Code.less(Code.var(0), Code.num(11000)), Code.give(Code.call(1, Code.add(Code.var(0), Code.num(1000)))),
            Code.seq(Code.set(0, Code.sub(Code.var(0), Code.num(11000))), Code.countdown(), Code.give(Code.call(0, Code.num(0)))));
        return Checks.kitWith(Code.give(Code.call(1, Code.var(0))), down);
    }

    private static void threeHundredWithTwelveAtWork() {
        Checks.about("Promise 9 and Terms", "each function that begins (before the 12 are looked at); if 300 are taken and another one would be: LONG");
        OutcomeKit kit = deep();
        Checks.steps("12 at work and 298 taken", kit, 0, 1000 + 285, OutcomeKit.THROWN, 299);
        Checks.due("kind()", kit.kind(), 2);
        Checks.steps("12 at work and 299 taken", kit, 0, 1000 + 286, OutcomeKit.THROWN, 300);
        Checks.due("kind()", kit.kind(), 2);
        Checks.steps("12 at work and 300 taken", kit, 0, 1000 + 287, OutcomeKit.LONG, 300);
        Checks.due("kind()", kit.kind(), -1);
    }

    private static void noBodyAfterThreeHundred() {
        Checks.about("Promise 9 and Terms", "if 300 are taken and another one would be; If f has no body, it throws kind 1");
        OutcomeKit kit = Checks.kitWith(Code.seq(Code.countdown(), Code.give(Code.call(1, Code.num(4)))));
        Checks.steps("299 taken", kit, 0, 297, OutcomeKit.THROWN, 299);
        Checks.steps("300 taken", kit, 0, 298, OutcomeKit.THROWN, 300);
        Checks.due("kind()", kit.kind(), 1);
    }

    private static void overAtOnce() {
        Checks.about("Promise 9, Terms", "all is over at once: LONG");
        int[] forever = Code.loop(0, Code.num(1), Code.skip());
        OutcomeKit kit = Checks.kitWith(Code.seq(Code.say(1), Code.ensure(forever, Code.grab(0, 4, Code.say(2)), Code.say(3))));
        Checks.outcome("no catch, no finally part", kit, 0, OutcomeKit.LONG, 0, -1, 1);
        Checks.outcome("in the finally part", Checks.kitWith(Code.ensure(Code.raise(1, 7), forever)), 0, OutcomeKit.LONG, 0, -1);
        Checks.outcome("in the catch", Checks.kitWith(Code.ensure(Code.raise(1, 7), Code.grab(0, 1, forever), Code.say(3))), 0, OutcomeKit.LONG, 0, -1);
        OutcomeKit callee = Checks.kitWith(Code.ensure(Code.set(1, Code.call(1, Code.num(0))), Code.say(3)), Code.ensure(forever, Code.say(2)));
        Checks.outcome("in a callee", callee, 0, OutcomeKit.LONG, 0, -1);
    }

    private static void overInAnOperand() {
        Checks.about("Promise 9, Terms", "all is over at once: LONG");
        int[] teller = Code.seq(Code.say(Code.var(0)), Code.give(Code.var(0)));
        int[] sum = Code.add(Code.call(1, Code.num(7)), Code.add(Code.call(1, Code.num(8)), Code.call(1, Code.num(9))));
        OutcomeKit kit = Checks.kitWith(Code.seq(Code.countdown(), Code.say(sum)), teller);
        Checks.outcome("three are left", kit, 295, OutcomeKit.OK, 0, -1, 7, 8, 9, 24);
        Checks.outcome("two are left", kit, 296, OutcomeKit.LONG, 0, -1, 7, 8);
        Checks.outcome("one is left", kit, 297, OutcomeKit.LONG, 0, -1, 7);
        Checks.outcome("none is left", kit, 298, OutcomeKit.LONG, 0, -1);
    }

    private static void nothingOfLongGoesOn() {
        Checks.about("Promises 6 and 9", "the latest run");
        OutcomeKit kit = deep();
        Checks.due("run(0, 1287)", kit.run(0, 1287), OutcomeKit.LONG);
        Checks.give(kit, 2, Code.seq(Code.say(Code.var(0)), Code.say(Code.var(1)), Code.say(8)));
        Checks.outcomeOf(2, "after LONG with 12 at work", kit, 7, OutcomeKit.OK, 0, -1, 7, 0, 8);
        Checks.due("steps()", kit.steps(), 1);
        Checks.steps("again", kit, 0, 1287, OutcomeKit.LONG, 300);
        Checks.steps("12 can be at work again", kit, 0, 1000, OutcomeKit.THROWN, 14);
    }
}
