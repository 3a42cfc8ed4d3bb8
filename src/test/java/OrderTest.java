/** Promise 12: define empties the draft also when it refuses it; place and said count from 0. */
public final class OrderTest {
    public static void main(String[] args) {
        OutcomeKit kit = new OutcomeKit();
        Checks.feed(kit, Code.node(14, 0, Code.skip()));
        Checks.due("SHAPE", kit.define(0), OutcomeKit.SHAPE);
        Checks.due("place() of what is missing", kit.place(), 2);
        Checks.feed(kit, Code.skip());
        Checks.due("OK after SHAPE", kit.define(0), OutcomeKit.OK);
        Checks.feed(kit, Code.leave(0));
        Checks.due("UNBOUND", kit.define(0), OutcomeKit.UNBOUND);
        Checks.due("place() of the first token", kit.place(), 0);
        Checks.due("nothing is left after UNBOUND", kit.define(0), OutcomeKit.SHAPE);
        Checks.due("place() of nothing", kit.place(), 0);
        Checks.give(kit, 0, Code.seq(Code.say(11), Code.say(12)));
        Checks.due("nothing is left after OK", kit.define(1), OutcomeKit.SHAPE);
        Checks.due("run(0, 0)", kit.run(0, 0), OutcomeKit.OK);
        Checks.due("said(0)", kit.said(0), 11);
        Checks.due("said(1)", kit.said(1), 12);
        Checks.due("said(2)", kit.said(2), 0);
        Checks.feed(kit, Code.say(21));
        Checks.due("run(0, 0) with a draft", kit.run(0, 0), OutcomeKit.OK);
        Checks.due("drop(0) with a draft", kit.drop(0), true);
        Checks.due("BAD", kit.define(4), OutcomeKit.BAD);
        Checks.due("the draft stayed", kit.define(0), OutcomeKit.OK);
        Checks.outcome("the draft that stayed", kit, 0, OutcomeKit.OK, 0, -1, 21);
        Checks.end("OrderTest");
    }
}
