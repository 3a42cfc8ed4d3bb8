/** Promise 3: a body is given only by a statement whose BREAKs and CONTINUEs have their WHILE. */
public final class DefineTest {
    public static void main(String[] args) {
        everyFunction();
        outside();
        keepsWhatItHad();
        longestBody();
        everyForm();
        shapes();
        labels();
        Checks.end("DefineTest");
    }

    private static int defined(int[] code) {
        OutcomeKit kit = new OutcomeKit();
        Checks.feed(kit, code);
        return kit.define(2);
    }

    private static void everyFunction() {
        OutcomeKit kit = new OutcomeKit();
        for (int f = 0; f < 4; f++) {
            Checks.give(kit, f, Code.give(10 + f));
        }
        for (int f = 0; f < 4; f++) {
            Checks.due("run(" + f + ", 0)", kit.run(f, 0), OutcomeKit.OK);
            Checks.due("result()", kit.result(), 10 + f);
        }
        Checks.give(kit, 2, Code.give(77));
        Checks.due("run(2, 0) of the new body", kit.run(2, 0), OutcomeKit.OK);
        Checks.due("result() of the new body", kit.result(), 77);
    }

    private static void outside() {
        int[] bad = {-1, 4, 5, Integer.MIN_VALUE, Integer.MAX_VALUE};
        OutcomeKit kit = new OutcomeKit();
        Checks.feed(kit, Code.give(5));
        for (int f : bad) {
            Checks.due("define(" + f + ")", kit.define(f), OutcomeKit.BAD);
        }
        Checks.due("define(3) of the draft that stayed", kit.define(3), OutcomeKit.OK);
        Checks.due("run(3, 0)", kit.run(3, 0), OutcomeKit.OK);
        Checks.due("result()", kit.result(), 5);
        Checks.due("define(4) of nothing", kit.define(4), OutcomeKit.BAD);
    }

    private static void keepsWhatItHad() {
        OutcomeKit kit = Checks.kitWith(Code.give(5));
        Checks.feed(kit, Code.num(1));
        Checks.due("define(0) of an E", kit.define(0), OutcomeKit.SHAPE);
        Checks.outcome("after SHAPE", kit, 0, OutcomeKit.OK, 5, -1);
        Checks.feed(kit, Code.seq(Code.give(6), Code.leave(0)));
        Checks.due("define(0) of a lone BREAK", kit.define(0), OutcomeKit.UNBOUND);
        Checks.outcome("after UNBOUND", kit, 0, OutcomeKit.OK, 5, -1);
        Checks.feed(kit, Code.num(1));
        Checks.due("define(1) of an E", kit.define(1), OutcomeKit.SHAPE);
        Checks.due("drop(1) after SHAPE", kit.drop(1), false);
        Checks.feed(kit, Code.again(3));
        Checks.due("define(1) of a lone CONTINUE", kit.define(1), OutcomeKit.UNBOUND);
        Checks.due("drop(1) after UNBOUND", kit.drop(1), false);
    }

    private static void longestBody() {
        int[] forty = Code.seq(Code.padding(16), Code.say(1), Code.give(Code.not(Code.num(4))));
        Checks.due("tokens of the longest body", forty.length / 2, 40);
        OutcomeKit kit = new OutcomeKit();
        for (int f = 3; f >= 0; f--) {
            Checks.give(kit, f, forty);
        }
        Checks.outcome("40 tokens", kit, 0, OutcomeKit.OK, 0, -1, 1);
    }

    private static void everyForm() {
        int[] e = Code.add(Code.sub(Code.var(5), Code.num(-1)), Code.mul(Code.not(Code.var(1)), Code.call(3, Code.num(2))));
        int[] d = Code.less(Code.div(Code.num(1), Code.num(2)), Code.var(0));
        Checks.due("all of E", defined(Code.set(5, Code.add(e, d))), OutcomeKit.OK);
        Checks.due("THROW", defined(Code.raise(3, e)), OutcomeKit.OK);
        Checks.due("SKIP", defined(Code.skip()), OutcomeKit.OK);
        Checks.due("IF", defined(Code.when(e, Code.skip(), Code.give(d))), OutcomeKit.OK);
        int[] one = Code.grab(5, 4, Code.skip());
        int[] two = Code.grab(0, 0, Code.say(1));
        Checks.due("TRY 1", defined(Code.attempt(Code.skip(), one)), OutcomeKit.OK);
        Checks.due("TRY 2", defined(Code.attempt(Code.skip(), one, two)), OutcomeKit.OK);
        Checks.due("TRY 4", defined(Code.ensure(Code.skip(), Code.say(2))), OutcomeKit.OK);
        Checks.due("TRY 5", defined(Code.ensure(Code.skip(), one, Code.say(2))), OutcomeKit.OK);
        Checks.due("TRY 6", defined(Code.ensure(Code.skip(), one, two, Code.say(2))), OutcomeKit.OK);
    }

    private static void shapes() {
        int[][] noStatements = {
            {}, Code.num(1), Code.add(Code.num(1), Code.num(2)), Code.node(11, 0), Code.node(11, 0, Code.skip()),
            Code.node(14, 0, Code.skip()), Code.node(14, 0, Code.skip(), Code.num(1)), Code.grab(0, 0, Code.skip()),
            Code.node(17, 1, Code.skip(), Code.skip()), Code.node(17, 4, Code.skip(), Code.grab(0, 0, Code.skip())),
            Code.node(15, 0, Code.skip()), Code.node(19, 0, Code.skip()), Code.node(1, 0, Code.num(1)),
            Code.node(17, 2, Code.skip(), Code.grab(0, 0, Code.skip())), Code.node(8, 0, Code.num(1)),
            Code.node(13, 0, Code.skip(), Code.skip()), Code.node(12, 0, Code.num(1), Code.skip()),
        };
        for (int i = 0; i < noStatements.length; i++) {
            Checks.due("no statement " + i, defined(noStatements[i]), OutcomeKit.SHAPE);
        }
        Checks.due("SHAPE before UNBOUND", defined(Code.node(14, 0, Code.leave(0))), OutcomeKit.SHAPE);
    }

    private static void labels() {
        for (int l = 0; l < 4; l++) {
            for (int m = 0; m < 4; m++) {
                int want = l == m ? OutcomeKit.OK : OutcomeKit.UNBOUND;
                Checks.due("BREAK " + m, defined(Code.loop(l, Code.num(0), Code.leave(m))), want);
                Checks.due("CONTINUE " + m, defined(Code.loop(l, Code.num(0), Code.again(m))), want);
            }
        }
        int[] loop = Code.loop(1, Code.num(0), Code.skip());
        Checks.due("BREAK behind", defined(Code.seq(loop, Code.leave(1))), OutcomeKit.UNBOUND);
        Checks.due("BREAK before", defined(Code.seq(Code.leave(1), loop)), OutcomeKit.UNBOUND);
        int[] deep = Code.loop(2, Code.num(0), Code.when(Code.num(1), Code.seq(Code.again(1), Code.leave(2)), Code.leave(1)));
        Checks.due("two loops", defined(Code.loop(1, Code.num(0), deep)), OutcomeKit.OK);
        Checks.due("the inner loop alone", defined(deep), OutcomeKit.UNBOUND);
        int[] parts = Code.ensure(Code.leave(3), Code.grab(0, 0, Code.again(3)), Code.grab(0, 4, Code.leave(3)), Code.again(3));
        Checks.due("all parts of TRY", defined(Code.loop(3, Code.num(1), parts)), OutcomeKit.OK);
        Checks.due("all parts of TRY without WHILE", defined(parts), OutcomeKit.UNBOUND);
        OutcomeKit kit = new OutcomeKit();
        Checks.give(kit, 1, Code.loop(0, Code.num(1), Code.set(1, Code.call(2, Code.num(0)))));
        Checks.feed(kit, Code.leave(0));
        Checks.due("a WHILE of another function", kit.define(2), OutcomeKit.UNBOUND);
    }
}
