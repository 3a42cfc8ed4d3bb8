/** Promise 10: how many SAYs the latest run did. */
public final class SaysTest {
    public static void main(String[] args) {
        noneYet();
        upToFortyAndBeyond();
        theMost();
        notDone();
        byAllFunctions();
        howeverItEnds();
        latest();
        refusedRun();
        Checks.end("SaysTest");
    }

    private static void says(String what, OutcomeKit kit, int f, int a, int answer, int says) {
        Checks.due(what + ": run(" + f + ", " + a + ")", kit.run(f, a), answer);
        Checks.due(what + ": says()", kit.says(), says);
    }

    private static void noneYet() {
        Checks.about("Promise 10", "How many SAYs the latest run did");
        OutcomeKit kit = Checks.kitWith(Code.say(1));
        Checks.due("says()", kit.says(), 0);
        says("only BAD", kit, 4, 0, OutcomeKit.BAD, 0);
        says("no body", kit, 1, 0, OutcomeKit.THROWN, 0);
    }

    private static void upToFortyAndBeyond() {
        Checks.about("Promise 10", "How many SAYs the latest run did");
        OutcomeKit kit = Checks.kitWith(Code.saying());
        for (int n : new int[] {0, 1, 2, 38, 39, 40, 41, 42, 79, 80, 81, 255, 256, 257, 298}) {
            says(n + " SAYs", kit, 0, n, OutcomeKit.OK, n);
        }
    }

    private static void theMost() {
        Checks.about("Promise 10", "How many SAYs the latest run did");
        int[] thirteen = Code.say(0);
        for (int i = 1; i < 13; i++) {
            thirteen = Code.seq(Code.say(i), thirteen);
        }
        OutcomeKit kit = Checks.kitWith(Code.loop(0, Code.num(1), thirteen));
        says("13 in each turn", kit, 0, 0, OutcomeKit.LONG, 299 * 13);
    }

    private static void notDone() {
        Checks.about("Promise 10", "How many SAYs the latest run did");
        OutcomeKit kit = Checks.kitWith(Code.seq(Code.say(4), Code.say(Code.div(Code.num(1), Code.num(0))), Code.say(5)),
            Code.say(Code.call(3, Code.num(0))), Code.when(Code.num(0), Code.say(1), Code.skip()));
        says("its E throws", kit, 0, 0, OutcomeKit.THROWN, 1);
        says("its E calls no body", kit, 1, 0, OutcomeKit.THROWN, 0);
        says("in the S that IF does not do", kit, 2, 0, OutcomeKit.OK, 0);
    }

    private static void byAllFunctions() {
        Checks.about("Promise 10", "How many SAYs the latest run did");
        OutcomeKit kit = Checks.kitWith(Code.seq(Code.say(1), Code.say(Code.call(1, Code.num(2)))), Code.seq(Code.say(3), Code.say(4)));
        says("two each", kit, 0, 0, OutcomeKit.OK, 4);
        says("the callee alone", kit, 1, 0, OutcomeKit.OK, 2);
    }

    private static void howeverItEnds() {
        Checks.about("Promise 10", "How many SAYs the latest run did");
        OutcomeKit kit = Checks.kitWith(Code.seq(Code.say(1), Code.give(2)), Code.seq(Code.say(1), Code.say(2), Code.raise(0, 1)),
            Code.seq(Code.say(1), Code.say(2), Code.say(3), Code.loop(0, Code.num(1), Code.skip())), Code.say(0));
        says("RETURN", kit, 0, 0, OutcomeKit.OK, 1);
        says("THROW", kit, 1, 0, OutcomeKit.THROWN, 2);
        says("LONG", kit, 2, 0, OutcomeKit.LONG, 3);
        says("an end", kit, 3, 0, OutcomeKit.OK, 1);
    }

    private static void latest() {
        Checks.about("Promise 10", "the latest run");
        OutcomeKit kit = Checks.kitWith(Code.saying());
        says("many", kit, 0, 50, OutcomeKit.OK, 50);
        says("few", kit, 0, 2, OutcomeKit.OK, 2);
        says("none", kit, 0, 0, OutcomeKit.OK, 0);
        says("many again", kit, 0, 50, OutcomeKit.OK, 50);
        says("no body", kit, 1, 2, OutcomeKit.THROWN, 0);
    }

    private static void refusedRun() {
        Checks.about("Promises 6 and 10", "BAD (and nothing changes)");
        OutcomeKit kit = Checks.kitWith(Code.saying());
        says("many", kit, 0, 50, OutcomeKit.OK, 50);
        says("BAD", kit, 4, 2, OutcomeKit.BAD, 50);
        says("BAD", kit, -1, 2, OutcomeKit.BAD, 50);
    }
}
