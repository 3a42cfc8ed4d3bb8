/** Promise 12: define empties the draft also when it refuses it; place and said count from 0. */
public final class OrderTest {
    public static void main(String[] args) {
        emptiesAtShape();
        emptiesAtUnbound();
        emptiesAtOk();
        onlyDefineEmpties();
        placeCountsFromZero();
        saidCountsFromZero();
        Checks.end("OrderTest");
    }

    private static void empties(int answer, int[]... drafts) {
        for (int[] draft : drafts) {
            OutcomeKit kit = new OutcomeKit();
            Checks.feed(kit, draft);
            Checks.due("define(0)", kit.define(0), answer);
            Checks.refuse("nothing is left", kit, 0, OutcomeKit.SHAPE, 0, new int[0]);
            Checks.give(kit, 0, Code.give(7));
            Checks.outcome("what came then", kit, 0, OutcomeKit.OK, 7, -1);
        }
    }

    private static void emptiesAtShape() {
        Checks.about("Promise 12", "define empties the draft also when it answers SHAPE");
        empties(OutcomeKit.SHAPE, new int[0], Code.num(1), Code.node(14, 0, Code.skip()), Code.repeat(40, 14, 0), Code.repeat(40, 15, 0));
    }

    private static void emptiesAtUnbound() {
        Checks.about("Promise 12", "define empties the draft also when it answers UNBOUND");
        empties(OutcomeKit.UNBOUND, Code.leave(0), Code.again(3), Code.seq(Code.skip(), Code.leave(1)), Code.forty(Code.leave(2)));
    }

    private static void emptiesAtOk() {
        Checks.about("Promises 3 and 12", "the draft, which is empty then");
        for (int[] draft : new int[][] {Code.skip(), Code.forty(Code.skip())}) {
            OutcomeKit kit = Checks.kitWith(draft);
            Checks.refuse("nothing is left", kit, 0, OutcomeKit.SHAPE, 0, new int[0]);
            Checks.room("all of it", kit, 40);
        }
    }

    private static void onlyDefineEmpties() {
        Checks.about("Promises 3 and 12", "BAD (the draft stays)");
        OutcomeKit kit = Checks.kitWith(Code.say(1));
        Checks.feed(kit, Code.node(11, 0));
        Checks.due("run(0, 0) with a draft", kit.run(0, 0), OutcomeKit.OK);
        Checks.due("drop(0) with a draft", kit.drop(0), true);
        Checks.due("define(4) with a draft", kit.define(4), OutcomeKit.BAD);
        Checks.due("token(9, 0) with a draft", kit.token(9, 0), false);
        Checks.feed(kit, Code.num(21));
        Checks.due("define(0)", kit.define(0), OutcomeKit.OK);
        Checks.outcome("the draft that stayed", kit, 0, OutcomeKit.OK, 0, -1, 21);
    }

    private static void placeCountsFromZero() {
        Checks.about("Promise 12", "place counts tokens from 0 (the first one is 0)");
        OutcomeKit kit = new OutcomeKit();
        Checks.refuse("SHAPE at the first", kit, 0, OutcomeKit.SHAPE, 0, Code.num(1));
        Checks.refuse("SHAPE at the second", kit, 0, OutcomeKit.SHAPE, 1, Code.node(15, 0, Code.skip()));
        Checks.refuse("UNBOUND at the first", kit, 0, OutcomeKit.UNBOUND, 0, Code.leave(0));
        Checks.refuse("UNBOUND at the second", kit, 0, OutcomeKit.UNBOUND, 1, Code.seq(Code.leave(0), Code.skip()));
        Checks.refuse("two, and one is missing", kit, 0, OutcomeKit.SHAPE, 2, Code.node(14, 0, Code.skip()));
    }

    private static void saidCountsFromZero() {
        Checks.about("Promise 12", "said outputs from 0");
        OutcomeKit kit = Checks.kitWith(Code.seq(Code.say(11), Code.say(12)));
        Checks.due("run(0, 0)", kit.run(0, 0), OutcomeKit.OK);
        Checks.due("said(-1)", kit.said(-1), 0);
        Checks.due("said(0)", kit.said(0), 11);
        Checks.due("said(1)", kit.said(1), 12);
        Checks.due("said(2)", kit.said(2), 0);
    }
}
