/** Promise 9: functions that begin and WHILEs' Es that are begun take a step each, 300 at most. */
public final class StepsTest {
    public static void main(String[] args) {
        functions();
        loops();
        edge();
        edgeAtCalls();
        Checks.end("StepsTest");
    }

    private static void due(String what, OutcomeKit kit, int a, int answer, int steps) {
        Checks.due(what + ": run(0, " + a + ")", kit.run(0, a), answer);
        Checks.due(what + ": steps()", kit.steps(), steps);
    }

    private static void functions() {
        OutcomeKit kit = new OutcomeKit();
        Checks.due("nothing was run", kit.steps(), 0);
        due("no body", kit, 0, OutcomeKit.THROWN, 0);
        Checks.give(kit, 0, Code.skip());
        due("one function", kit, 0, OutcomeKit.OK, 1);
        Checks.due("run(-1, 0)", kit.run(-1, 0), OutcomeKit.BAD);
        Checks.due("steps() after BAD", kit.steps(), 1);
        Checks.give(kit, 0, Code.say(Code.add(Code.call(1, Code.num(1)), Code.call(1, Code.num(2)))));
        Checks.give(kit, 1, Code.skip());
        due("three functions", kit, 0, OutcomeKit.OK, 3);
        kit.drop(1);
        due("a call of no body", kit, 0, OutcomeKit.THROWN, 1);
        Checks.give(kit, 1, Code.give(Code.call(1, Code.num(0))));
        due("the 13th takes one", kit, 0, OutcomeKit.THROWN, 13);
        Checks.give(kit, 0, Code.raise(1, Code.div(Code.num(1), Code.num(0))));
        due("one that throws", kit, 0, OutcomeKit.THROWN, 1);
    }

    /** Counts variable 0 down to 0: argument + 2 steps. */
    private static int[] countdown() {
        return Code.loop(0, Code.var(0), Code.set(0, Code.sub(Code.var(0), Code.num(1))));
    }

    private static void loops() {
        OutcomeKit kit = Checks.kitWith(countdown());
        due("none", kit, 0, OutcomeKit.OK, 2);
        due("one", kit, 1, OutcomeKit.OK, 3);
        due("five", kit, 5, OutcomeKit.OK, 7);
        due("BREAK", Checks.kitWith(Code.loop(0, Code.num(1), Code.leave(0))), 0, OutcomeKit.OK, 2);
        due("CONTINUE", Checks.kitWith(Code.loop(0, Code.var(0), Code.seq(Code.set(0, Code.num(0)), Code.again(0)))), 1, OutcomeKit.OK, 3);
        due("an E that throws", Checks.kitWith(Code.loop(0, Code.div(Code.num(1), Code.num(0)), Code.skip())), 0, OutcomeKit.THROWN, 2);
        due("an E that calls no body", Checks.kitWith(Code.loop(0, Code.call(2, Code.num(0)), Code.skip())), 0, OutcomeKit.THROWN, 2);
    }

    private static void edge() {
        OutcomeKit kit = Checks.kitWith(Code.seq(countdown(), Code.say(5), Code.give(6)));
        due("299", kit, 297, OutcomeKit.OK, 299);
        due("300", kit, 298, OutcomeKit.OK, 300);
        Checks.due("300: result()", kit.result(), 6);
        Checks.due("300: says()", kit.says(), 1);
        due("301", kit, 299, OutcomeKit.LONG, 300);
        Checks.due("301: result()", kit.result(), 0);
        Checks.due("301: kind()", kit.kind(), -1);
        Checks.due("301: says()", kit.says(), 0);
        due("no end", kit, -1, OutcomeKit.LONG, 300);
        due("after LONG", kit, 3, OutcomeKit.OK, 5);
        due("no end again", kit, -1, OutcomeKit.LONG, 300);
        Checks.give(kit, 0, Code.say(8));
        due("nothing of LONG goes on", kit, 0, OutcomeKit.OK, 1);
        Checks.due("nothing of LONG goes on: says()", kit.says(), 1);
    }

    private static void edgeAtCalls() {
        OutcomeKit kit = Checks.kitWith(Code.seq(countdown(), Code.give(Code.call(1, Code.num(4)))));
        Checks.give(kit, 1, Code.give(Code.var(0)));
        due("the 300th begins", kit, 297, OutcomeKit.OK, 300);
        Checks.due("result()", kit.result(), 4);
        due("the 301st does not", kit, 298, OutcomeKit.LONG, 300);
        kit.drop(1);
        due("no body takes none", kit, 298, OutcomeKit.THROWN, 300);
        Checks.due("kind()", kit.kind(), 1);
        OutcomeKit deep = Checks.kitWith(Code.give(Code.call(1, Code.var(0))));
        int[] down = Code.when(Code.less(Code.var(0), Code.num(11000)), Code.give(Code.call(1, Code.add(Code.var(0), Code.num(1000)))),
            Code.seq(Code.set(0, Code.sub(Code.var(0), Code.num(11000))), countdown(), Code.give(Code.call(0, Code.num(0)))));
        Checks.give(deep, 1, down);
        due("12 at work and 299 taken", deep, 1000 + 286, OutcomeKit.THROWN, 300);
        Checks.due("kind()", deep.kind(), 2);
        due("12 at work and 300 taken", deep, 1000 + 287, OutcomeKit.LONG, 300);
        Checks.due("kind()", deep.kind(), -1);
    }
}
