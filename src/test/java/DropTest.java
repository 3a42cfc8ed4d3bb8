/** Promise 5: a function loses its body, once. */
public final class DropTest {
    public static void main(String[] args) {
        OutcomeKit kit = new OutcomeKit();
        for (int f = 0; f < 4; f++) {
            Checks.give(kit, f, Code.give(f + 1));
        }
        Checks.due("run(3, 0)", kit.run(3, 0), OutcomeKit.OK);
        Checks.feed(kit, Code.give(9));
        for (int f : new int[] {-1, 4, 100, Integer.MIN_VALUE, Integer.MAX_VALUE}) {
            Checks.due("drop(" + f + ")", kit.drop(f), false);
        }
        Checks.due("drop(2)", kit.drop(2), true);
        Checks.due("drop(2) again", kit.drop(2), false);
        Checks.due("result() after drop", kit.result(), 4);
        Checks.due("steps() after drop", kit.steps(), 1);
        Checks.due("run(2, 0)", kit.run(2, 0), OutcomeKit.THROWN);
        Checks.due("kind()", kit.kind(), 1);
        Checks.due("result()", kit.result(), 2);
        for (int f : new int[] {0, 1, 3}) {
            Checks.due("run(" + f + ", 0)", kit.run(f, 0), OutcomeKit.OK);
            Checks.due("result()", kit.result(), f + 1);
        }
        Checks.due("define(2) of the draft from before", kit.define(2), OutcomeKit.OK);
        Checks.due("run(2, 0)", kit.run(2, 0), OutcomeKit.OK);
        Checks.due("result()", kit.result(), 9);
        Checks.due("drop(2) of the new body", kit.drop(2), true);
        Checks.end("DropTest");
    }
}
