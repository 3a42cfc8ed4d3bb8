/** Terms: the variables 0..5 of a function that is at work. */
public final class VariablesTest {
    private static final int LEAST = Integer.MIN_VALUE, MOST = Integer.MAX_VALUE;

    public static void main(String[] args) {
        zeroIsTheArgument();
        theOthersAreZero();
        everyVariableIsItsOwn();
        newAtEachRun();
        newAtEachCall();
        belongToOneFunction();
        keptWhenTheCalleeThrows();
        keptWhenExpressionThrows();
        twelveTimesSix();
        Checks.end("VariablesTest");
    }

    private static void zeroIsTheArgument() {
        Checks.about("Promise 6, Terms", "at its beginning variable 0 is its argument");
        OutcomeKit kit = Checks.kitWith(Code.give(Code.var(0)), Code.give(Code.call(0, Code.var(0))));
        for (int a : new int[] {LEAST, LEAST + 1, -1, 0, 1, MOST - 1, MOST}) {
            Checks.outcome("run", kit, a, OutcomeKit.OK, a, -1);
            Checks.outcomeOf(1, "CALL", kit, a, OutcomeKit.OK, a, -1);
        }
    }

    private static int[] sayOthers() {
        return Code.seq(Code.say(Code.var(1)), Code.say(Code.var(2)), Code.say(Code.var(3)), Code.say(Code.var(4)), Code.say(Code.var(5)));
    }

    private static void theOthersAreZero() {
        Checks.about("Promise 6, Terms", "at its beginning the others are 0");
        OutcomeKit kit = Checks.kitWith(sayOthers(), Code.give(Code.call(0, Code.var(0))));
        Checks.outcome("run", kit, 7, OutcomeKit.OK, 0, -1, 0, 0, 0, 0, 0);
        Checks.outcomeOf(1, "CALL", kit, 7, OutcomeKit.OK, 0, -1, 0, 0, 0, 0, 0);
    }

    private static void everyVariableIsItsOwn() {
        Checks.about("Promise 6, Terms", "VARIABLES 0..5");
        for (int v = 0; v < 6; v++) {
            OutcomeKit kit = Checks.kitWith(Code.seq(Code.set(v, Code.num(9)), Code.say(Code.var(0)), sayOthers()));
            int[] said = {5, 0, 0, 0, 0, 0};
            said[v] = 9;
            Checks.outcome("SET " + v, kit, 5, OutcomeKit.OK, 0, -1, said);
        }
    }

    private static int[] setAll(int[] last) {
        int[] code = last;
        for (int v = 5; v >= 0; v--) {
            code = Code.seq(Code.set(v, Code.num(9)), code);
        }
        return code;
    }

    private static void newAtEachRun() {
        Checks.about("Promise 6, Terms", "at its beginning variable 0 is its argument, the others are 0");
        OutcomeKit kit = Checks.kitWith(setAll(Code.skip()), Code.seq(Code.say(Code.var(0)), sayOthers()), setAll(Code.raise(1, 1)),
            setAll(Code.loop(0, Code.num(1), Code.skip())));
        int[] answers = {OutcomeKit.OK, OutcomeKit.OK, OutcomeKit.THROWN, OutcomeKit.LONG};
        for (int f : new int[] {0, 2, 3}) {
            Checks.due("run(" + f + ", 1)", kit.run(f, 1), answers[f]);
            Checks.outcomeOf(1, "after function " + f, kit, 6, OutcomeKit.OK, 0, -1, 6, 0, 0, 0, 0, 0);
        }
    }

    private static void newAtEachCall() {
        Checks.about("Promise 6, Terms", "at its beginning variable 0 is its argument, the others are 0");
        OutcomeKit kit = Checks.kitWith(Code.seq(Code.set(1, Code.call(1, Code.num(3))), Code.set(1, Code.call(2, Code.num(4))),
            Code.set(1, Code.call(1, Code.num(5)))), Code.seq(Code.say(Code.var(0)), sayOthers()), setAll(Code.skip()));
        Checks.outcome("before and after one that sets all", kit, 1, OutcomeKit.OK, 0, -1, 3, 0, 0, 0, 0, 0, 5, 0, 0, 0, 0, 0);
    }

    private static void belongToOneFunction() {
        Checks.about("Promise 6, Terms", "VARIABLES 0..5 belong to a function that is at work");
        OutcomeKit kit = Checks.kitWith(Code.seq(Code.set(5, Code.num(4)), Code.set(1, Code.call(1, Code.num(8))),
            Code.say(Code.var(0)), sayOthers()), setAll(Code.give(3)));
        Checks.outcome("one that sets all is called", kit, 2, OutcomeKit.OK, 0, -1, 2, 3, 0, 0, 0, 4);
        int[] down = Code.seq(Code.set(5, Code.mul(Code.var(0), Code.num(2))),
            Code.when(Code.var(0), Code.set(1, Code.call(0, Code.sub(Code.var(0), Code.num(1)))), Code.skip()),
            Code.say(Code.var(0)), Code.say(Code.var(5)));
        Checks.outcome("one that calls itself", Checks.kitWith(down), 2, OutcomeKit.OK, 0, -1, 0, 0, 1, 2, 2, 4);
    }

    private static void keptWhenTheCalleeThrows() {
        Checks.about("Promise 6, Terms", "VARIABLES 0..5 belong to a function that is at work");
        OutcomeKit kit = Checks.kitWith(Code.seq(Code.set(5, Code.num(4)), Code.attempt(Code.set(1, Code.call(1, Code.num(8))),
            Code.grab(2, 3, Code.skip())), Code.say(Code.var(0)), sayOthers()), setAll(Code.raise(3, 7)));
        Checks.outcome("one that sets all throws", kit, 2, OutcomeKit.OK, 0, -1, 2, 0, 7, 0, 0, 4);
    }

    private static void keptWhenExpressionThrows() {
        Checks.about("Promise 6, Terms", "SET v E");
        int[] kept = Code.attempt(Code.set(0, Code.div(Code.num(1), Code.num(0))), Code.grab(1, 0, Code.say(Code.var(0))));
        Checks.outcome("SET whose E throws", Checks.kitWith(kept), 6, OutcomeKit.OK, 0, -1, 6);
    }

    private static void twelveTimesSix() {
        Checks.about("Promise 6, Terms", "VARIABLES 0..5 belong to a function that is at work");
        int[] body = Code.seq(Code.set(5, Code.add(Code.var(0), Code.num(100))),
            Code.when(Code.less(Code.var(0), Code.num(12)), Code.set(1, Code.call(0, Code.add(Code.var(0), Code.num(1)))), Code.skip()),
            Code.say(Code.var(5)));
        Checks.outcome("twelve at work", Checks.kitWith(body), 1, OutcomeKit.OK, 0, -1,
            112, 111, 110, 109, 108, 107, 106, 105, 104, 103, 102, 101);
    }
}
