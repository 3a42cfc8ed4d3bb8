/** Promise 5: a function loses its body, once. */
public final class DropTest {
    public static void main(String[] args) {
        losesItsBody();
        theOthersKeepTheirs();
        falseIfNone();
        falseOutside();
        falseChangesNothing();
        onlyTheBody();
        getsAnotherBody();
        Checks.end("DropTest");
    }

    private static OutcomeKit four() {
        return Checks.kitWith(Code.give(1), Code.give(2), Code.give(3), Code.give(4));
    }

    private static void losesItsBody() {
        Checks.about("Promise 5", "Function f loses its body.");
        for (int f = 0; f < 4; f++) {
            OutcomeKit kit = four();
            Checks.due("drop(" + f + ")", kit.drop(f), true);
            Checks.outcomeOf(f, "dropped", kit, 0, OutcomeKit.THROWN, f, 1);
        }
    }

    private static void theOthersKeepTheirs() {
        Checks.about("Promise 5", "Function f loses its body.");
        for (int f = 0; f < 4; f++) {
            OutcomeKit kit = four();
            Checks.due("drop(" + f + ")", kit.drop(f), true);
            for (int g = 0; g < 4; g++) {
                if (g != f) {
                    Checks.outcomeOf(g, "another one than " + f, kit, 0, OutcomeKit.OK, g + 1, -1);
                }
            }
        }
    }

    private static void falseIfNone() {
        Checks.about("Promise 5", "False if it has none.");
        OutcomeKit kit = new OutcomeKit();
        for (int f = 0; f < 4; f++) {
            Checks.due("drop(" + f + ") of a new object", kit.drop(f), false);
            Checks.give(kit, f, Code.skip());
            Checks.due("drop(" + f + ")", kit.drop(f), true);
            Checks.due("drop(" + f + ") again", kit.drop(f), false);
            Checks.refuse("an E", kit, f, OutcomeKit.SHAPE, 0, Code.num(1));
            Checks.due("drop(" + f + ") after SHAPE", kit.drop(f), false);
            Checks.refuse("BREAK", kit, f, OutcomeKit.UNBOUND, 0, Code.leave(0));
            Checks.due("drop(" + f + ") after UNBOUND", kit.drop(f), false);
        }
    }

    private static void falseOutside() {
        Checks.about("Promise 5", "False if it has none.");
        OutcomeKit kit = four();
        for (int f : Kits.NO_FUNCTIONS) {
            Checks.due("drop(" + f + ")", kit.drop(f), false);
        }
        for (int f = 0; f < 4; f++) {
            Checks.due("drop(" + f + ")", kit.drop(f), true);
        }
    }

    private static void falseChangesNothing() {
        Checks.about("Promise 5", "False if it has none.");
        for (int[] draft : Kits.drafts()) {
            OutcomeKit kit = Kits.usedWith(draft);
            Checks.due("drop(3)", kit.drop(3), false);
            for (int f : Kits.NO_FUNCTIONS) {
                Checks.due("drop(" + f + ")", kit.drop(f), false);
            }
            Checks.alike("after refused drops", kit, Kits.usedWith(draft));
        }
    }

    private static void onlyTheBody() {
        Checks.about("Promise 5", "Function f loses its body.");
        OutcomeKit kit = Kits.usedWith(Code.give(9));
        Checks.due("drop(1)", kit.drop(1), true);
        Checks.due("result() after drop", kit.result(), 33);
        Checks.due("kind() after drop", kit.kind(), 2);
        Checks.due("steps() after drop", kit.steps(), 1);
        Checks.due("says() after drop", kit.says(), 2);
        Checks.due("said(1) after drop", kit.said(1), 32);
        Checks.due("place() after drop", kit.place(), 2);
        Checks.due("define(3) of the draft from before", kit.define(3), OutcomeKit.OK);
        Checks.outcomeOf(3, "the draft from before", kit, 0, OutcomeKit.OK, 9, -1);
    }

    private static void getsAnotherBody() {
        Checks.about("Promises 3 and 5", "Function f gets the draft as its body; Function f loses its body.");
        OutcomeKit kit = four();
        Checks.due("drop(2)", kit.drop(2), true);
        Checks.give(kit, 2, Code.give(9));
        Checks.outcomeOf(2, "the new body", kit, 0, OutcomeKit.OK, 9, -1);
        Checks.due("drop(2) of the new body", kit.drop(2), true);
        Checks.outcomeOf(2, "dropped again", kit, 0, OutcomeKit.THROWN, 2, 1);
    }
}
