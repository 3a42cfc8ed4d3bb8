/** Promise 6: what run answers, and that a refused run changes nothing. */
public final class RunTest {
    private static final int LEAST = Integer.MIN_VALUE, MOST = Integer.MAX_VALUE;

    public static void main(String[] args) {
        runsFunctionF();
        withAnArgument();
        okIfItReturns();
        okIfItEnds();
        thrownIfItThrows();
        longIfTooManySteps();
        badIfOutside();
        badChangesNothing();
        thrownIfNoBody();
        runChangesNoBodyAndNoDraft();
        oneRunAfterTheOther();
        Checks.end("RunTest");
    }

    private static void runsFunctionF() {
        Checks.about("Promise 6", "Runs function f");
        OutcomeKit kit = Checks.kitWith(Code.give(10), Code.give(11), Code.give(12), Code.give(13));
        for (int f = 0; f < 4; f++) {
            Checks.outcomeOf(f, "its own body", kit, 0, OutcomeKit.OK, 10 + f, -1);
        }
    }

    private static void withAnArgument() {
        Checks.about("Promise 6", "with an argument");
        OutcomeKit kit = Checks.kitWith(Code.give(Code.var(0)));
        for (int a : new int[] {LEAST, LEAST + 1, -1, 0, 1, MOST - 1, MOST}) {
            Checks.outcome("RETURN it", kit, a, OutcomeKit.OK, a, -1);
        }
    }

    private static void okIfItReturns() {
        Checks.about("Promise 6", "OK if it returns");
        for (int value : new int[] {LEAST, -1, 0, 1, MOST}) {
            Checks.returns("RETURN", Code.give(value), value);
            Checks.returns("RETURN in WHILE", Code.loop(0, Code.num(1), Code.give(value)), value);
        }
    }

    private static void okIfItEnds() {
        Checks.about("Promise 6", "OK if it ends");
        Checks.returns("SKIP", Code.skip(), 0);
        Checks.returns("after a value", Code.set(0, Code.num(8)), 0);
        Checks.returns("after a caught exception", Code.attempt(Code.raise(1, 8), Code.grab(0, 1, Code.skip())), 0);
        Checks.returns("after BREAK", Code.loop(3, Code.num(8), Code.leave(3)), 0);
        Checks.outcome("with an argument", Checks.kitWith(Code.skip()), 8, OutcomeKit.OK, 0, -1);
    }

    private static void thrownIfItThrows() {
        Checks.about("Promise 6", "THROWN if it throws");
        for (int k = 0; k < 4; k++) {
            Checks.throwsOut("THROW " + k, Code.raise(k, 8), k, 8);
        }
        Checks.throwsOut("DIV by 0", Code.say(Code.div(Code.num(8), Code.num(0))), 0, 8);
    }

    private static void longIfTooManySteps() {
        Checks.about("Promise 6", "LONG");
        OutcomeKit kit = Checks.kitWith(Code.countdown());
        Checks.outcome("300 steps", kit, 298, OutcomeKit.OK, 0, -1);
        Checks.outcome("301 steps", kit, 299, OutcomeKit.LONG, 0, -1);
        Checks.outcome("no end", kit, -1, OutcomeKit.LONG, 0, -1);
    }

    private static void badIfOutside() {
        Checks.about("Promise 6", "BAD if f is outside");
        OutcomeKit kit = Checks.kitWith(Code.skip(), Code.skip(), Code.skip(), Code.skip());
        for (int f : Kits.NO_FUNCTIONS) {
            Checks.due("run(" + f + ", 0) of a new object", new OutcomeKit().run(f, 0), OutcomeKit.BAD);
            Checks.due("run(" + f + ", 0)", kit.run(f, 0), OutcomeKit.BAD);
        }
        for (int f = 0; f < 4; f++) {
            Checks.due("run(" + f + ", 0)", kit.run(f, 0), OutcomeKit.OK);
        }
    }

    private static void badChangesNothing() {
        Checks.about("Promise 6", "BAD (and nothing changes)");
        for (int[] draft : Kits.drafts()) {
            OutcomeKit kit = Kits.usedWith(draft);
            for (int f : Kits.NO_FUNCTIONS) {
                Checks.due("run(" + f + ", 7)", kit.run(f, 7), OutcomeKit.BAD);
            }
            Checks.alike("after BAD", kit, Kits.usedWith(draft));
        }
        OutcomeKit kit = Checks.kitWith(Code.loop(0, Code.num(1), Code.say(3)));
        Checks.due("run(0, 0)", kit.run(0, 0), OutcomeKit.LONG);
        Checks.due("run(4, 0)", kit.run(4, 0), OutcomeKit.BAD);
        Checks.due("result() after LONG and BAD", kit.result(), 0);
        Checks.due("kind() after LONG and BAD", kit.kind(), -1);
        Checks.due("steps() after LONG and BAD", kit.steps(), 300);
        Checks.due("says() after LONG and BAD", kit.says(), 299);
    }

    private static void thrownIfNoBody() {
        Checks.about("Promise 6", "(Also THROWN if it has no body.)");
        for (int f = 0; f < 4; f++) {
            OutcomeKit kit = new OutcomeKit();
            Checks.outcomeOf(f, "never had one", kit, f + 50, OutcomeKit.THROWN, f, 1);
            Checks.due("steps()", kit.steps(), 0);
            Checks.give(kit, f, Code.give(6));
            Checks.outcomeOf(f, "has one", kit, 0, OutcomeKit.OK, 6, -1);
            Checks.due("drop(" + f + ")", kit.drop(f), true);
            Checks.outcomeOf(f, "lost it", kit, 0, OutcomeKit.THROWN, f, 1);
        }
    }

    private static void runChangesNoBodyAndNoDraft() {
        Checks.about("Promise 6", "Runs function f with an argument");
        for (int[] draft : Kits.drafts()) {
            OutcomeKit kit = Kits.usedWith(draft);
            kit.run(0, 1);
            kit.run(2, 1);
            kit.run(3, 1);
            kit.run(1, 32);
            Checks.alike("after other runs and the same one", kit, Kits.usedWith(draft));
        }
    }

    private static void oneRunAfterTheOther() {
        Checks.about("Promises 6 to 11", "the latest run");
        int[] says = Code.seq(Code.say(Code.var(1)), Code.set(1, Code.num(9)), Code.say(Code.var(0)));
        OutcomeKit kit = Checks.kitWith(says, Code.loop(0, Code.num(1), Code.seq(Code.say(1), Code.say(2))), Code.raise(3, 4));
        Checks.outcome("the first", kit, 7, OutcomeKit.OK, 0, -1, 0, 7);
        Checks.due("run(1, 0)", kit.run(1, 0), OutcomeKit.LONG);
        Checks.outcome("after LONG", kit, 8, OutcomeKit.OK, 0, -1, 0, 8);
        Checks.outcomeOf(2, "THROW", kit, 8, OutcomeKit.THROWN, 4, 3);
        Checks.outcome("after THROWN", kit, 9, OutcomeKit.OK, 0, -1, 0, 9);
        Checks.outcomeOf(3, "no body", kit, 8, OutcomeKit.THROWN, 3, 1);
        Checks.outcome("after no body", kit, 10, OutcomeKit.OK, 0, -1, 0, 10);
    }
}
