/** Promise 8: the kind of the exception that the latest run threw. */
public final class KindTest {
    public static void main(String[] args) {
        noneYet();
        everyKind();
        ownKinds();
        threwNone();
        afterLong();
        refusedRun();
        Checks.end("KindTest");
    }

    private static void after(String what, OutcomeKit kit, int f, int a, int answer, int kind) {
        Checks.due(what + ": run(" + f + ", " + a + ")", kit.run(f, a), answer);
        Checks.due(what + ": kind()", kit.kind(), kind);
        Checks.due(what + ": kind() again", kit.kind(), kind);
    }

    private static void noneYet() {
        Checks.about("Promise 8", "-1 if it threw none");
        OutcomeKit kit = new OutcomeKit();
        Checks.due("kind()", kit.kind(), -1);
        after("only BAD", kit, 4, 7, OutcomeKit.BAD, -1);
        Checks.give(kit, 0, Code.raise(2, 5));
        Checks.due("kind() before a run", kit.kind(), -1);
    }

    private static void everyKind() {
        Checks.about("Promise 8", "The kind of the exception that the latest run threw");
        for (int k = 0; k < 4; k++) {
            OutcomeKit kit = Checks.kitWith(Code.raise(k, Code.var(0)), Code.give(Code.call(0, Code.num(1))));
            after("THROW " + k, kit, 0, 9, OutcomeKit.THROWN, k);
            after("THROW " + k + " of -1", kit, 0, -1, OutcomeKit.THROWN, k);
            after("THROW " + k + " in a CALL", kit, 1, 9, OutcomeKit.THROWN, k);
        }
    }

    private static void ownKinds() {
        Checks.about("Promise 8 and Terms", "DIV by 0 throws kind 0; no body kind 1; while 12 are at work kind 2");
        OutcomeKit kit = Checks.kitWith(Code.give(Code.div(Code.num(3), Code.num(0))), Code.give(Code.call(3, Code.num(0))),
            Code.give(Code.call(2, Code.num(0))));
        after("DIV by 0", kit, 0, 9, OutcomeKit.THROWN, 0);
        after("CALL of no body", kit, 1, 9, OutcomeKit.THROWN, 1);
        after("run of no body", kit, 3, 9, OutcomeKit.THROWN, 1);
        after("a thirteenth", kit, 2, 9, OutcomeKit.THROWN, 2);
    }

    private static void threwNone() {
        Checks.about("Promise 8", "-1 if it threw none");
        int[] caught = Code.attempt(Code.raise(2, 6), Code.grab(0, 2, Code.skip()));
        int[] turned = Code.ensure(Code.raise(2, 6), Code.give(5));
        OutcomeKit kit = Checks.kitWith(Code.raise(3, 4), Code.skip(), caught, turned);
        for (int f = 1; f < 4; f++) {
            after("THROW", kit, 0, 0, OutcomeKit.THROWN, 3);
            after("none thrown by " + f, kit, f, 0, OutcomeKit.OK, -1);
        }
    }

    private static void afterLong() {
        Checks.about("Promise 8", "-1 if it threw none");
        int[] forever = Code.loop(0, Code.num(1), Code.skip());
        OutcomeKit kit = Checks.kitWith(Code.raise(3, 4), forever, Code.ensure(Code.raise(2, 6), forever));
        for (int f = 1; f < 3; f++) {
            after("THROW", kit, 0, 0, OutcomeKit.THROWN, 3);
            after("LONG", kit, f, 0, OutcomeKit.LONG, -1);
        }
    }

    private static void refusedRun() {
        Checks.about("Promises 6 and 8", "BAD (and nothing changes)");
        OutcomeKit kit = Checks.kitWith(Code.give(5), Code.raise(3, 6));
        after("THROW", kit, 1, 0, OutcomeKit.THROWN, 3);
        after("BAD after THROW", kit, 4, 0, OutcomeKit.BAD, 3);
        after("RETURN", kit, 0, 0, OutcomeKit.OK, -1);
        after("BAD after RETURN", kit, -1, 0, OutcomeKit.BAD, -1);
    }
}
