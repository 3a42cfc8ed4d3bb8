/** Promise 11: output k of the first 40 of the latest run. */
public final class SaidTest {
    private static final int LEAST = Integer.MIN_VALUE, MOST = Integer.MAX_VALUE;

    public static void main(String[] args) {
        noneYet();
        everyOutput();
        theFirstForty();
        anyValue();
        outside();
        latest();
        sayingAgain();
        howeverItEnds();
        refusedRun();
        Checks.end("SaidTest");
    }

    private static void noneYet() {
        Checks.about("Promise 11", "0 if there is none");
        OutcomeKit kit = new OutcomeKit();
        for (int k : new int[] {LEAST, -1, 0, 1, 38, 39, 40, 41, MOST}) {
            Checks.due("said(" + k + ")", kit.said(k), 0);
        }
    }

    private static void everyOutput() {
        Checks.about("Promises 11 and 12", "Output k; said outputs from 0");
        for (int n : new int[] {0, 1, 2, 38, 39, 40}) {
            OutcomeKit kit = Checks.kitWith(Code.saying());
            Checks.due("run(0, " + n + ")", kit.run(0, n), OutcomeKit.OK);
            for (int k = 0; k <= 45; k++) {
                Checks.due(n + " SAYs: said(" + k + ")", kit.said(k), k < n ? n - k : 0);
            }
        }
    }

    private static void theFirstForty() {
        Checks.about("Promise 11", "Output k of the first 40");
        for (int n : new int[] {41, 42, 80, 81, 298}) {
            OutcomeKit kit = Checks.kitWith(Code.saying());
            Checks.due("run(0, " + n + ")", kit.run(0, n), OutcomeKit.OK);
            for (int k = 0; k < 40; k++) {
                Checks.due(n + " SAYs: said(" + k + ")", kit.said(k), n - k);
            }
            for (int k : new int[] {40, 41, 42, 79, 80, n - 1, n, n + 1}) {
                Checks.due(n + " SAYs: said(" + k + ")", kit.said(k), 0);
            }
        }
    }

    private static void anyValue() {
        Checks.about("Promise 11 and Terms", "SAY: E is added to the output");
        Checks.returns("the least and the most", Code.seq(Code.say(LEAST), Code.say(0), Code.say(-1), Code.say(MOST)), 0, LEAST, 0, -1, MOST);
    }

    private static void outside() {
        Checks.about("Promise 11", "0 if there is none");
        OutcomeKit kit = Checks.kitWith(Code.saying());
        for (int n : new int[] {1, 40, 60}) {
            Checks.due("run(0, " + n + ")", kit.run(0, n), OutcomeKit.OK);
            for (int k : new int[] {LEAST, LEAST + 1, -65536, -256, -41, -40, -2, -1, 60, 256, 65536, MOST - 1, MOST}) {
                Checks.due(n + " SAYs: said(" + k + ")", kit.said(k), 0);
            }
            Checks.due(n + " SAYs: said(0)", kit.said(0), n);
        }
    }

    private static void latest() {
        Checks.about("Promise 11", "of the latest run; 0 if there is none");
        OutcomeKit kit = Checks.kitWith(Code.saying());
        Checks.due("run(0, 50)", kit.run(0, 50), OutcomeKit.OK);
        Checks.due("said(39) of many", kit.said(39), 11);
        Checks.due("run(0, 2)", kit.run(0, 2), OutcomeKit.OK);
        Checks.due("said(0)", kit.said(0), 2);
        Checks.due("said(1)", kit.said(1), 1);
        for (int k = 2; k < 40; k++) {
            Checks.due("said(" + k + ")", kit.said(k), 0);
        }
        Checks.due("run(1, 2)", kit.run(1, 2), OutcomeKit.THROWN);
        Checks.due("said(0) after no body", kit.said(0), 0);
        Checks.due("said(1) after no body", kit.said(1), 0);
    }

    private static void sayingAgain() {
        Checks.about("Promise 11", "Output k");
        OutcomeKit kit = Checks.kitWith(Code.saying());
        Checks.due("run(0, 3)", kit.run(0, 3), OutcomeKit.OK);
        for (int i = 0; i < 3; i++) {
            Checks.due("said(0)", kit.said(0), 3);
            Checks.due("said(2)", kit.said(2), 1);
            Checks.due("said(3)", kit.said(3), 0);
            Checks.due("says()", kit.says(), 3);
        }
    }

    private static void howeverItEnds() {
        Checks.about("Promise 11", "Output k of the first 40 of the latest run");
        Checks.throwsOut("THROW", Code.seq(Code.say(4), Code.say(-5), Code.raise(0, 1)), 0, 1, 4, -5);
        Checks.throwsOut("a SAY not done", Code.seq(Code.say(4), Code.say(Code.div(Code.num(1), Code.num(0)))), 0, 1, 4);
        Checks.returns("a caught one", Code.seq(Code.say(1), Code.attempt(Code.seq(Code.say(2), Code.raise(0, 1)),
            Code.grab(0, 0, Code.say(3)))), 0, 1, 2, 3);
        OutcomeKit kit = Checks.kitWith(Code.loop(0, Code.num(1), Code.seq(Code.say(1), Code.say(2), Code.say(3))));
        Checks.due("LONG", kit.run(0, 0), OutcomeKit.LONG);
        Checks.due("LONG: said(38)", kit.said(38), 3);
        Checks.due("LONG: said(39)", kit.said(39), 1);
        Checks.due("LONG: said(40)", kit.said(40), 0);
    }

    private static void refusedRun() {
        Checks.about("Promises 6 and 11", "BAD (and nothing changes)");
        OutcomeKit kit = Checks.kitWith(Code.saying());
        Checks.due("run(0, 50)", kit.run(0, 50), OutcomeKit.OK);
        Checks.due("run(4, 2)", kit.run(4, 2), OutcomeKit.BAD);
        for (int k = 0; k < 42; k++) {
            Checks.due("said(" + k + ") after BAD", kit.said(k), k < 40 ? 50 - k : 0);
        }
    }
}
