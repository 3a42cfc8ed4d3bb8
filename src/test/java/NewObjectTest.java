/** Promise 1, and the constants of the public face. */
public final class NewObjectTest {
    public static void main(String[] args) {
        constants();
        noFunctionHasABody();
        theDraftIsEmpty();
        theDraftHasRoomForAll();
        nothingWasRun();
        nothingWasDefined();
        objectsAreApart();
        Checks.end("NewObjectTest");
    }

    private static void constants() {
        Checks.about("The public face", "OK = 0, SHAPE = 1, UNBOUND = 2, THROWN = 3, LONG = 4, BAD = -1");
        Checks.due("OK", OutcomeKit.OK, 0);
        Checks.due("SHAPE", OutcomeKit.SHAPE, 1);
        Checks.due("UNBOUND", OutcomeKit.UNBOUND, 2);
        Checks.due("THROWN", OutcomeKit.THROWN, 3);
        Checks.due("LONG", OutcomeKit.LONG, 4);
        Checks.due("BAD", OutcomeKit.BAD, -1);
    }

    private static void noFunctionHasABody() {
        Checks.about("Promise 1", "No function has a body");
        OutcomeKit kit = new OutcomeKit();
        for (int f = 0; f < 4; f++) {
            Checks.due("drop(" + f + ")", kit.drop(f), false);
            Checks.outcomeOf(f, "run", kit, 9, OutcomeKit.THROWN, f, 1);
        }
        for (int f = 1; f < 4; f++) {
            OutcomeKit caller = Checks.kitWith(Code.give(Code.call(f, Code.num(9))));
            Checks.outcome("CALL " + f, caller, 9, OutcomeKit.THROWN, f, 1);
        }
    }

    private static void theDraftIsEmpty() {
        Checks.about("Promise 1", "the draft is empty");
        for (int f = 0; f < 4; f++) {
            Checks.refuse("nothing", new OutcomeKit(), f, OutcomeKit.SHAPE, 0, new int[0]);
        }
        Checks.returns("the first token is the first", Code.give(5), 5);
    }

    private static void theDraftHasRoomForAll() {
        Checks.about("Promise 1", "the draft is empty");
        Checks.room("a new object", new OutcomeKit(), 40);
    }

    private static void nothingWasRun() {
        Checks.about("Promise 1", "nothing was run");
        OutcomeKit kit = new OutcomeKit();
        Checks.due("result()", kit.result(), 0);
        Checks.due("kind()", kit.kind(), -1);
        Checks.due("steps()", kit.steps(), 0);
        Checks.due("says()", kit.says(), 0);
        for (int k : new int[] {Integer.MIN_VALUE, -1, 0, 1, 39, 40, Integer.MAX_VALUE}) {
            Checks.due("said(" + k + ")", kit.said(k), 0);
        }
    }

    private static void nothingWasDefined() {
        Checks.about("Promises 1 and 4", "else -1");
        OutcomeKit kit = new OutcomeKit();
        Checks.due("place()", kit.place(), -1);
        Checks.due("define(4)", kit.define(4), OutcomeKit.BAD);
        Checks.due("place() after BAD", kit.place(), -1);
    }

    private static void objectsAreApart() {
        Checks.about("Promise 1", "A new object");
        Kits.usedWith(Code.skip());
        Checks.alike("a new object beside a used one", new OutcomeKit(), new OutcomeKit());
        OutcomeKit one = Checks.kitWith(Code.seq(Code.say(4), Code.give(5)));
        OutcomeKit other = new OutcomeKit();
        Checks.outcome("the one", one, 0, OutcomeKit.OK, 5, -1, 4);
        Checks.due("the other's result()", other.result(), 0);
        Checks.due("the other's says()", other.says(), 0);
        Checks.outcome("the other", other, 0, OutcomeKit.THROWN, 0, 1);
        Checks.due("the one's result()", one.result(), 5);
    }
}
