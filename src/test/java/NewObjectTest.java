/** Promise 1: no function has a body, the draft is empty, nothing was run. */
public final class NewObjectTest {
    public static void main(String[] args) {
        constants();
        nothingWasRun();
        noBodies();
        emptyDraft();
        objectsAreApart();
        Checks.end("NewObjectTest");
    }

    private static void constants() {
        Checks.due("OK", OutcomeKit.OK, 0);
        Checks.due("SHAPE", OutcomeKit.SHAPE, 1);
        Checks.due("UNBOUND", OutcomeKit.UNBOUND, 2);
        Checks.due("THROWN", OutcomeKit.THROWN, 3);
        Checks.due("LONG", OutcomeKit.LONG, 4);
        Checks.due("BAD", OutcomeKit.BAD, -1);
    }

    private static void nothingWasRun() {
        OutcomeKit kit = new OutcomeKit();
        Checks.due("result()", kit.result(), 0);
        Checks.due("kind()", kit.kind(), -1);
        Checks.due("steps()", kit.steps(), 0);
        Checks.due("says()", kit.says(), 0);
        Checks.due("said(0)", kit.said(0), 0);
        Checks.due("place()", kit.place(), -1);
    }

    private static void noBodies() {
        OutcomeKit kit = new OutcomeKit();
        for (int f = 0; f < 4; f++) {
            Checks.due("drop(" + f + ")", kit.drop(f), false);
            Checks.due("run(" + f + ", 0)", kit.run(f, 0), OutcomeKit.THROWN);
        }
    }

    private static void emptyDraft() {
        OutcomeKit kit = new OutcomeKit();
        Checks.due("define(0) of nothing", kit.define(0), OutcomeKit.SHAPE);
        Checks.due("place() of nothing", kit.place(), 0);
        for (int i = 0; i < 40; i++) {
            Checks.due("token " + i, kit.token(15, 0), true);
        }
        Checks.due("token 40", kit.token(15, 0), false);
    }

    private static void objectsAreApart() {
        OutcomeKit one = Checks.kitWith(Code.give(5));
        OutcomeKit other = new OutcomeKit();
        Checks.due("the one", one.run(0, 0), OutcomeKit.OK);
        Checks.due("the other's result()", other.result(), 0);
        Checks.due("the other", other.run(0, 0), OutcomeKit.THROWN);
    }
}
