/** Promises 7 and 8: what the latest run gave, or the value and the kind that it threw. */
public final class ResultTest {
    public static void main(String[] args) {
        OutcomeKit kit = new OutcomeKit();
        due("nothing was run", kit, 0, -1);
        kit.run(7, 7);
        due("BAD was answered", kit, 0, -1);
        Checks.give(kit, 0, Code.when(Code.var(0), Code.raise(3, Code.var(0)), Code.give(Integer.MIN_VALUE)));
        Checks.give(kit, 1, Code.loop(0, Code.num(1), Code.set(1, Code.num(5))));
        Checks.give(kit, 2, Code.set(1, Code.num(5)));
        due("before a run", kit, 0, -1);
        Checks.due("run(0, 0)", kit.run(0, 0), OutcomeKit.OK);
        due("after RETURN", kit, Integer.MIN_VALUE, -1);
        Checks.due("run(0, -9)", kit.run(0, -9), OutcomeKit.THROWN);
        due("after THROW", kit, -9, 3);
        Checks.due("run(4, 0)", kit.run(4, 0), OutcomeKit.BAD);
        due("after BAD", kit, -9, 3);
        kit.drop(0);
        Checks.feed(kit, Code.give(1));
        kit.define(0);
        due("after drop and define", kit, -9, 3);
        Checks.due("run(1, 0)", kit.run(1, 0), OutcomeKit.LONG);
        due("after LONG", kit, 0, -1);
        Checks.due("run(3, 0)", kit.run(3, 0), OutcomeKit.THROWN);
        due("after no body", kit, 3, 1);
        Checks.due("run(2, 0)", kit.run(2, 0), OutcomeKit.OK);
        due("after a normal end", kit, 0, -1);
        for (int k = 0; k < 4; k++) {
            Checks.give(kit, 1, Code.raise(k, 20 + k));
            Checks.due("run(1, 0)", kit.run(1, 0), OutcomeKit.THROWN);
            due("after THROW " + k, kit, 20 + k, k);
        }
        Checks.give(kit, 1, Code.attempt(Code.raise(2, 6), Code.grab(0, 2, Code.skip())));
        Checks.due("run(1, 0)", kit.run(1, 0), OutcomeKit.OK);
        due("after a caught THROW", kit, 0, -1);
        Checks.end("ResultTest");
    }

    private static void due(String what, OutcomeKit kit, int result, int kind) {
        Checks.due(what + ": result()", kit.result(), result);
        Checks.due(what + ": kind()", kit.kind(), kind);
    }
}
