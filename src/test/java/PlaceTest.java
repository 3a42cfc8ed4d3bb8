/** Promise 4: where a draft stops being a statement, or which BREAK or CONTINUE has no WHILE. */
public final class PlaceTest {
    public static void main(String[] args) {
        noDefine();
        firstToken();
        behindTheEnd();
        wrongSorts();
        someAreMissing();
        fortyWithSomeMissing();
        atTheLastToken();
        shapeGoesBeforeUnbound();
        unbound();
        unboundFirstAndLast();
        elseMinusOne();
        notBad();
        onlyDefineChangesIt();
        Checks.end("PlaceTest");
    }

    private static void due(String what, int answer, int place, int[]... parts) {
        OutcomeKit kit = new OutcomeKit();
        for (int[] part : parts) {
            Checks.feed(kit, part);
        }
        Checks.due(what + ": define(1)", kit.define(1), answer);
        Checks.due(what + ": place()", kit.place(), place);
        Checks.due(what + ": place() again", kit.place(), place);
    }

    private static void noDefine() {
        Checks.about("Promise 4", "else -1");
        OutcomeKit kit = new OutcomeKit();
        Checks.due("place()", kit.place(), -1);
        Checks.feed(kit, Code.num(1));
        Checks.due("place() with a draft", kit.place(), -1);
    }

    private static void firstToken() {
        Checks.about("Promises 4 and 12", "the first token such that no statement begins with the tokens up to it; the first one is 0");
        for (int kind = 0; kind <= 8; kind++) {
            due("kind " + kind, OutcomeKit.SHAPE, 0, Code.node(kind, 1, Code.skip()));
        }
        due("a CATCH", OutcomeKit.SHAPE, 0, Code.grab(0, 0, Code.skip()));
        for (int kind = 10; kind <= 21; kind++) {
            if (kind != 18) {
                int answer = kind == 15 ? OutcomeKit.OK : kind == 19 || kind == 20 ? OutcomeKit.UNBOUND : OutcomeKit.SHAPE;
                int place = kind == 15 ? -1 : kind == 19 || kind == 20 ? 0 : 1;
                due("kind " + kind, answer, place, Code.node(kind, 1));
            }
        }
    }

    private static void behindTheEnd() {
        Checks.about("Promise 4", "the first token such that no statement begins with the tokens up to it");
        due("SKIP SKIP", OutcomeKit.SHAPE, 1, Code.skip(), Code.skip());
        due("SKIP and 39 more", OutcomeKit.SHAPE, 1, Code.repeat(40, 15, 0));
        due("SAY 1 and two NUMs", OutcomeKit.SHAPE, 2, Code.say(1), Code.num(1), Code.num(2));
        due("BREAK SKIP", OutcomeKit.SHAPE, 1, Code.leave(0), Code.skip());
        due("a third CATCH", OutcomeKit.SHAPE, 6, Code.node(17, 2, Code.skip(), Code.grab(0, 0, Code.skip()),
            Code.grab(0, 0, Code.skip()), Code.grab(0, 0, Code.skip())));
        due("a second finally part", OutcomeKit.SHAPE, 3, Code.ensure(Code.skip(), Code.skip()), Code.skip());
    }

    private static void wrongSorts() {
        Checks.about("Promise 4", "the first token such that no statement begins with the tokens up to it");
        due("S for E", OutcomeKit.SHAPE, 3, Code.node(11, 0, Code.node(2, 0, Code.num(1), Code.skip())));
        due("C for E", OutcomeKit.SHAPE, 1, Code.node(10, 0, Code.grab(0, 0, Code.skip())));
        due("E for S", OutcomeKit.SHAPE, 3, Code.node(13, 0, Code.not(Code.num(1)), Code.num(1), Code.skip()));
        due("C for S", OutcomeKit.SHAPE, 1, Code.node(17, 1, Code.grab(0, 0, Code.skip())));
        due("S for the first C", OutcomeKit.SHAPE, 2, Code.node(17, 1, Code.skip(), Code.skip()));
        due("S for the second C", OutcomeKit.SHAPE, 4, Code.node(17, 2, Code.skip(), Code.grab(0, 0, Code.skip()), Code.skip()));
        due("S for the second C, 6", OutcomeKit.SHAPE, 4, Code.node(17, 6, Code.skip(), Code.grab(0, 0, Code.skip()), Code.skip()));
        due("C for the only finally part", OutcomeKit.SHAPE, 2, Code.node(17, 4, Code.skip(), Code.grab(0, 0, Code.skip())));
        due("C for the finally part", OutcomeKit.SHAPE, 4,
            Code.node(17, 5, Code.skip(), Code.grab(0, 0, Code.skip()), Code.grab(0, 0, Code.skip())));
        due("E for the finally part", OutcomeKit.SHAPE, 6,
            Code.node(17, 6, Code.skip(), Code.grab(0, 0, Code.skip()), Code.grab(0, 0, Code.skip()), Code.num(1)));
        due("C behind TRY in SEQ", OutcomeKit.SHAPE, 5, Code.node(14, 0,
            Code.attempt(Code.skip(), Code.grab(0, 0, Code.skip())), Code.grab(0, 0, Code.skip())));
        due("the first of two", OutcomeKit.SHAPE, 1, Code.node(14, 0, Code.num(1), Code.num(2), Code.num(3)));
    }

    private static void someAreMissing() {
        Checks.about("Promise 4", "or their number if some are missing");
        int[] whole = Code.loop(0, Code.less(Code.var(0), Code.num(3)), Code.ensure(Code.set(0, Code.not(Code.var(1))),
            Code.grab(1, 2, Code.when(Code.num(1), Code.leave(0), Code.again(0))),
            Code.grab(5, 4, Code.raise(1, Code.call(2, Code.num(1)))), Code.seq(Code.skip(), Code.give(2))));
        int count = whole.length / 2;
        for (int n = 0; n < count; n++) {
            due("the first " + n, OutcomeKit.SHAPE, n, Code.firstOf(n, whole));
        }
        due("all of it", OutcomeKit.OK, -1, whole);
        due("all of it and more", OutcomeKit.SHAPE, count, whole, Code.leave(0));
    }

    private static void fortyWithSomeMissing() {
        Checks.about("Promise 4", "or their number if some are missing");
        int[][] openers = {{14, 0}, {17, 1}, {17, 2}, {17, 4}, {17, 5}, {17, 6}};
        for (int[] opener : openers) {
            for (int n = 1; n <= 40; n++) {
                due(n + " of kind " + opener[0], OutcomeKit.SHAPE, n, Code.repeat(n, opener[0], opener[1]));
            }
        }
        due("SAY and 39 NOTs", OutcomeKit.SHAPE, 40, Code.node(11, 0), Code.repeat(39, 7, 0));
        due("SAY and 38 NOTs and a number", OutcomeKit.OK, -1, Code.node(11, 0), Code.repeat(38, 7, 0), Code.num(1));
        due("SAY and 39 ADDs", OutcomeKit.SHAPE, 40, Code.node(11, 0), Code.repeat(39, 2, 0));
        due("one is missing of 41", OutcomeKit.SHAPE, 40, Code.firstOf(40, Code.padded(41, Code.skip())));
    }

    private static void atTheLastToken() {
        Checks.about("Promise 4", "the first token such that no statement begins with the tokens up to it");
        due("39 tokens", OutcomeKit.OK, -1, Code.padded(39, Code.skip()));
        due("39 tokens and one", OutcomeKit.SHAPE, 39, Code.padded(39, Code.skip()), Code.skip());
        due("the last of 40 is no S", OutcomeKit.SHAPE, 39, Code.firstOf(39, Code.forty(Code.skip())), Code.num(1));
        due("40 tokens", OutcomeKit.OK, -1, Code.forty(Code.skip()));
    }

    private static void shapeGoesBeforeUnbound() {
        Checks.about("Promise 4", "if it was SHAPE");
        due("a lone BREAK before E for S", OutcomeKit.SHAPE, 2, Code.node(14, 0, Code.leave(0), Code.num(1)));
        due("a lone BREAK before the end", OutcomeKit.SHAPE, 2, Code.node(14, 0, Code.leave(0)));
    }

    private static void unbound() {
        Checks.about("Promise 4", "if it was UNBOUND: the first such BREAK or CONTINUE");
        due("another label", OutcomeKit.UNBOUND, 2, Code.loop(0, Code.num(1), Code.leave(1)));
        due("the first of two", OutcomeKit.UNBOUND, 1, Code.seq(Code.again(1), Code.leave(0)));
        due("the first is CONTINUE", OutcomeKit.UNBOUND, 3, Code.seq(Code.skip(), Code.again(0), Code.leave(0)));
        due("behind its WHILE", OutcomeKit.UNBOUND, 4, Code.seq(Code.loop(0, Code.num(1), Code.leave(0)), Code.leave(0)));
        due("the second is unbound", OutcomeKit.UNBOUND, 5,
            Code.loop(2, Code.num(1), Code.seq(Code.again(2), Code.seq(Code.leave(1), Code.leave(2)))));
        due("in the finally part", OutcomeKit.UNBOUND, 4,
            Code.ensure(Code.loop(1, Code.num(0), Code.skip()), Code.again(1)));
        due("in the CATCH", OutcomeKit.UNBOUND, 5,
            Code.attempt(Code.loop(1, Code.num(0), Code.skip()), Code.grab(0, 1, Code.leave(1))));
    }

    private static void unboundFirstAndLast() {
        Checks.about("Promises 4 and 12", "the first such BREAK or CONTINUE; place counts tokens from 0 (the first one is 0)");
        due("BREAK is the first", OutcomeKit.UNBOUND, 0, Code.leave(0));
        due("CONTINUE is the first", OutcomeKit.UNBOUND, 0, Code.again(3));
        due("BREAK is the last of 40", OutcomeKit.UNBOUND, 39, Code.forty(Code.leave(0)));
        due("CONTINUE is the last of 40", OutcomeKit.UNBOUND, 39, Code.forty(Code.again(3)));
    }

    private static void elseMinusOne() {
        Checks.about("Promise 4", "else -1");
        OutcomeKit kit = new OutcomeKit();
        Checks.refuse("an E", kit, 0, OutcomeKit.SHAPE, 0, Code.num(1));
        Checks.give(kit, 1, Code.skip());
        Checks.refuse("BREAK", kit, 0, OutcomeKit.UNBOUND, 1, Code.seq(Code.leave(0), Code.skip()));
        Checks.give(kit, 1, Code.skip());
        Checks.refuse("an E after UNBOUND and OK", kit, 3, OutcomeKit.SHAPE, 0, Code.num(1));
        Checks.refuse("UNBOUND after SHAPE", kit, 3, OutcomeKit.UNBOUND, 1, Code.seq(Code.leave(0), Code.skip()));
        Checks.refuse("SHAPE after UNBOUND", kit, 3, OutcomeKit.SHAPE, 2, Code.node(11, 0, Code.num(1), Code.num(2)));
    }

    private static void notBad() {
        Checks.about("Promise 4", "Of the latest define that was not BAD");
        int[][] drafts = {Code.skip(), Code.num(1), Code.node(14, 0, Code.skip()), Code.seq(Code.skip(), Code.leave(2))};
        int[] places = {-1, 0, 2, 2};
        for (int i = 0; i < drafts.length; i++) {
            OutcomeKit kit = new OutcomeKit();
            Checks.feed(kit, drafts[i]);
            kit.define(0);
            Checks.due("place() of draft " + i, kit.place(), places[i]);
            for (int f : Kits.NO_FUNCTIONS) {
                Checks.due("define(" + f + ") of nothing", kit.define(f), OutcomeKit.BAD);
                Checks.due("place() after BAD", kit.place(), places[i]);
            }
            Checks.feed(kit, Code.node(11, 0, Code.node(7, 0, Code.node(7, 0, Code.skip()))));
            Checks.due("define(4) of another", kit.define(4), OutcomeKit.BAD);
            Checks.due("place() after BAD of another", kit.place(), places[i]);
            Checks.due("define(0) of another", kit.define(0), OutcomeKit.SHAPE);
            Checks.due("place() of another", kit.place(), 3);
        }
    }

    private static void onlyDefineChangesIt() {
        Checks.about("Promise 4", "Of the latest define");
        OutcomeKit kit = Checks.kitWith(Code.loop(0, Code.num(1), Code.say(1)), Code.raise(1, 2));
        Checks.refuse("BREAK", kit, 0, OutcomeKit.UNBOUND, 2, Code.seq(Code.skip(), Code.leave(2)));
        Checks.feed(kit, Code.skip());
        Checks.due("place() after token", kit.place(), 2);
        kit.token(9, 0);
        Checks.due("place() after a refused token", kit.place(), 2);
        kit.run(0, 0);
        kit.run(1, 0);
        kit.run(2, 0);
        kit.run(4, 0);
        Checks.due("place() after runs", kit.place(), 2);
        kit.drop(0);
        kit.drop(3);
        kit.drop(4);
        Checks.due("place() after drops", kit.place(), 2);
        Checks.due("define(0)", kit.define(0), OutcomeKit.OK);
        Checks.due("place() after OK", kit.place(), -1);
    }
}
