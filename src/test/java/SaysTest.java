/** Promises 10 and 11: how many SAYs the latest run did, and the first 40 of what they said. */
public final class SaysTest {
    public static void main(String[] args) {
        none();
        manySays();
        latestRun();
        afterTheEnd();
        Checks.end("SaysTest");
    }

    private static void none() {
        OutcomeKit kit = new OutcomeKit();
        for (int k : new int[] {Integer.MIN_VALUE, -1, 0, 1, 39, 40, Integer.MAX_VALUE}) {
            Checks.due("said(" + k + ")", kit.said(k), 0);
        }
        Checks.due("says()", kit.says(), 0);
    }

    /** Says argument, argument - 1, ..., 1. */
    private static int[] saying() {
        return Code.loop(0, Code.var(0), Code.seq(Code.say(Code.var(0)), Code.set(0, Code.sub(Code.var(0), Code.num(1)))));
    }

    private static void manySays() {
        for (int n : new int[] {0, 1, 39, 40, 41, 90, 298}) {
            OutcomeKit kit = Checks.kitWith(saying());
            Checks.due(n + " SAYs: run", kit.run(0, n), OutcomeKit.OK);
            Checks.due(n + " SAYs: says()", kit.says(), n);
            for (int k = -3; k < 60; k++) {
                int want = k >= 0 && k < 40 && k < n ? n - k : 0;
                Checks.due(n + " SAYs: said(" + k + ")", kit.said(k), want);
            }
            Checks.due(n + " SAYs: said(MAX)", kit.said(Integer.MAX_VALUE), 0);
            Checks.due(n + " SAYs: said(MIN)", kit.said(Integer.MIN_VALUE), 0);
        }
        OutcomeKit kit = Checks.kitWith(Code.loop(0, Code.num(1), Code.seq(Code.say(1), Code.say(2), Code.say(3))));
        Checks.due("LONG", kit.run(0, 0), OutcomeKit.LONG);
        Checks.due("LONG: says()", kit.says(), 897);
        Checks.due("LONG: said(38)", kit.said(38), 3);
        Checks.due("LONG: said(39)", kit.said(39), 1);
        Checks.due("LONG: said(40)", kit.said(40), 0);
    }

    private static void latestRun() {
        OutcomeKit kit = Checks.kitWith(saying());
        kit.run(0, 50);
        kit.run(9, 50);
        Checks.due("says() after BAD", kit.says(), 50);
        Checks.due("said(39) after BAD", kit.said(39), 11);
        kit.run(0, 2);
        Checks.due("says()", kit.says(), 2);
        Checks.due("said(1)", kit.said(1), 1);
        Checks.due("said(2)", kit.said(2), 0);
        kit.run(1, 2);
        Checks.due("says() after no body", kit.says(), 0);
        Checks.due("said(0) after no body", kit.said(0), 0);
    }

    private static void afterTheEnd() {
        Checks.throwsOut("before THROW", Code.seq(Code.say(4), Code.say(-5), Code.raise(0, 1)), 0, 1, 4, -5);
        Checks.throwsOut("a SAY not done", Code.seq(Code.say(4), Code.say(Code.div(Code.num(1), Code.num(0)))), 0, 1, 4);
        Checks.returns("a caught one", Code.seq(Code.say(1), Code.attempt(Code.seq(Code.say(2), Code.raise(0, 1)),
            Code.grab(0, 0, Code.say(3)))), 0, 1, 2, 3);
    }
}
