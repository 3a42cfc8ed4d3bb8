/** Promise 4: where a draft stops being a statement, or which BREAK or CONTINUE has no WHILE. */
public final class PlaceTest {
    public static void main(String[] args) {
        shapes();
        cutOff();
        unbound();
        latestDefine();
        Checks.end("PlaceTest");
    }

    private static void due(String what, int answer, int place, int[]... parts) {
        OutcomeKit kit = new OutcomeKit();
        for (int[] part : parts) {
            Checks.feed(kit, part);
        }
        Checks.due(what + ": define(1)", kit.define(1), answer);
        Checks.due(what + ": place()", kit.place(), place);
        Checks.due(what + ": place() again", kit.place(), place);
    }

    private static void shapes() {
        due("an E", OutcomeKit.SHAPE, 0, Code.num(1));
        due("a CATCH", OutcomeKit.SHAPE, 0, Code.grab(0, 0, Code.skip()));
        due("more after the end", OutcomeKit.SHAPE, 1, Code.skip(), Code.skip());
        due("more after the end", OutcomeKit.SHAPE, 2, Code.say(1), Code.num(1), Code.num(2));
        due("S for E", OutcomeKit.SHAPE, 3, Code.node(11, 0, Code.node(2, 0, Code.num(1), Code.skip())));
        due("E for S", OutcomeKit.SHAPE, 3, Code.node(13, 0, Code.not(Code.num(1)), Code.num(1), Code.skip()));
        due("C for S", OutcomeKit.SHAPE, 1, Code.node(17, 1, Code.grab(0, 0, Code.skip())));
        due("S for C", OutcomeKit.SHAPE, 4, Code.node(17, 2, Code.skip(), Code.grab(0, 0, Code.skip()), Code.skip()));
        due("C for the finally part", OutcomeKit.SHAPE, 4,
            Code.node(17, 5, Code.skip(), Code.grab(0, 0, Code.skip()), Code.grab(0, 0, Code.skip())));
        due("E for the finally part", OutcomeKit.SHAPE, 6,
            Code.node(17, 6, Code.skip(), Code.grab(0, 0, Code.skip()), Code.grab(0, 0, Code.skip()), Code.num(1)));
        due("a third CATCH", OutcomeKit.SHAPE, 6, Code.node(17, 2, Code.skip(), Code.grab(0, 0, Code.skip()),
            Code.grab(0, 0, Code.skip()), Code.grab(0, 0, Code.skip())));
        due("C behind TRY in SEQ", OutcomeKit.SHAPE, 5, Code.node(14, 0,
            Code.attempt(Code.skip(), Code.grab(0, 0, Code.skip())), Code.grab(0, 0, Code.skip())));
        due("a lone BREAK before", OutcomeKit.SHAPE, 2, Code.node(14, 0, Code.leave(0), Code.num(1)));
    }

    private static void cutOff() {
        due("nothing", OutcomeKit.SHAPE, 0);
        due("a lone BREAK before", OutcomeKit.SHAPE, 2, Code.node(14, 0, Code.leave(0)));
        int[] whole = Code.loop(0, Code.less(Code.var(0), Code.num(3)), Code.ensure(Code.set(0, Code.not(Code.var(1))),
            Code.grab(1, 2, Code.when(Code.num(1), Code.leave(0), Code.again(0))),
            Code.grab(5, 4, Code.raise(1, Code.call(2, Code.num(1)))), Code.seq(Code.skip(), Code.give(2))));
        int count = whole.length / 2;
        for (int n = 0; n < count; n++) {
            int[] some = new int[2 * n];
            System.arraycopy(whole, 0, some, 0, 2 * n);
            due("the first " + n, OutcomeKit.SHAPE, n, some);
        }
        due("all of it", OutcomeKit.OK, -1, whole);
        due("all of it and more", OutcomeKit.SHAPE, count, whole, Code.leave(0));
        int[] forty = new int[80];
        for (int i = 0; i < 40; i++) {
            forty[2 * i] = 14;
        }
        due("40 SEQs", OutcomeKit.SHAPE, 40, forty);
        for (int i = 0; i < 40; i++) {
            forty[2 * i] = 17;
            forty[2 * i + 1] = 6;
        }
        due("40 TRYs, of which most is missing", OutcomeKit.SHAPE, 40, forty);
    }

    private static void unbound() {
        due("BREAK", OutcomeKit.UNBOUND, 0, Code.leave(0));
        due("CONTINUE", OutcomeKit.UNBOUND, 0, Code.again(3));
        due("another label", OutcomeKit.UNBOUND, 2, Code.loop(0, Code.num(1), Code.leave(1)));
        due("the first of two", OutcomeKit.UNBOUND, 1, Code.seq(Code.again(1), Code.leave(0)));
        due("behind its WHILE", OutcomeKit.UNBOUND, 4, Code.seq(Code.loop(0, Code.num(1), Code.leave(0)), Code.leave(0)));
        due("the second is unbound", OutcomeKit.UNBOUND, 5,
            Code.loop(2, Code.num(1), Code.seq(Code.again(2), Code.seq(Code.leave(1), Code.leave(2)))));
        due("in the finally part", OutcomeKit.UNBOUND, 4,
            Code.ensure(Code.loop(1, Code.num(0), Code.skip()), Code.again(1)));
        due("in the CATCH", OutcomeKit.UNBOUND, 5,
            Code.attempt(Code.loop(1, Code.num(0), Code.skip()), Code.grab(0, 1, Code.leave(1))));
    }

    private static void latestDefine() {
        OutcomeKit kit = new OutcomeKit();
        Checks.feed(kit, Code.seq(Code.skip(), Code.leave(2)));
        Checks.due("define(0)", kit.define(0), OutcomeKit.UNBOUND);
        Checks.due("place()", kit.place(), 2);
        Checks.due("define(-1)", kit.define(-1), OutcomeKit.BAD);
        Checks.due("place() after BAD", kit.place(), 2);
        Checks.feed(kit, Code.skip());
        Checks.due("place() after token", kit.place(), 2);
        kit.run(0, 0);
        kit.drop(0);
        Checks.due("place() after run and drop", kit.place(), 2);
        Checks.due("define(0)", kit.define(0), OutcomeKit.OK);
        Checks.due("place() after OK", kit.place(), -1);
        Checks.due("define(4)", kit.define(4), OutcomeKit.BAD);
        Checks.due("place() after OK and BAD", kit.place(), -1);
    }
}
