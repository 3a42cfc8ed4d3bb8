/** Promise 3: a body is given only by a statement whose BREAKs and CONTINUEs have their WHILE. */
public final class DefineTest {
    public static void main(String[] args) {
        getsTheDraft();
        replacesWhatItHad();
        theDraftIsEmptyThen();
        outside();
        outsideChangesNothing();
        shapeNothing();
        shapeTooFew();
        shapeTooMany();
        shapeWrongSort();
        everyForm();
        unboundLabels();
        unboundAround();
        unboundInTry();
        shapeBeforeUnbound();
        keepsABody();
        keepsNone();
        longestBodies();
        Checks.end("DefineTest");
    }

    private static int defined(int[] code) {
        OutcomeKit kit = new OutcomeKit();
        Checks.feed(kit, code);
        return kit.define(2);
    }

    private static void getsTheDraft() {
        Checks.about("Promise 3", "Function f gets the draft as its body");
        OutcomeKit kit = new OutcomeKit();
        for (int f = 0; f < 4; f++) {
            Checks.give(kit, f, Code.give(10 + f));
        }
        for (int f = 0; f < 4; f++) {
            Checks.outcomeOf(f, "its own body", kit, 0, OutcomeKit.OK, 10 + f, -1);
        }
        OutcomeKit last = new OutcomeKit();
        Checks.give(last, 3, Code.give(5));
        for (int f = 0; f < 3; f++) {
            Checks.due("drop(" + f + ")", last.drop(f), false);
        }
        Checks.outcomeOf(3, "the only body", last, 0, OutcomeKit.OK, 5, -1);
    }

    private static void replacesWhatItHad() {
        Checks.about("Promise 3", "Function f gets the draft as its body");
        OutcomeKit kit = Checks.kitWith(Code.forty(Code.say(1)), Code.say(7));
        Checks.give(kit, 0, Code.skip());
        Checks.outcome("a short body for a long one", kit, 0, OutcomeKit.OK, 0, -1);
        Checks.give(kit, 0, Code.forty(Code.say(2)));
        Checks.outcome("a long body for a short one", kit, 0, OutcomeKit.OK, 0, -1, 2);
        Checks.outcomeOf(1, "the other function", kit, 0, OutcomeKit.OK, 0, -1, 7);
    }

    private static void theDraftIsEmptyThen() {
        Checks.about("Promise 3", "the draft, which is empty then");
        OutcomeKit kit = Checks.kitWith(Code.give(5));
        Checks.refuse("nothing is left", kit, 1, OutcomeKit.SHAPE, 0, new int[0]);
        Checks.give(kit, 1, Code.give(6));
        Checks.outcomeOf(1, "only what came then", kit, 0, OutcomeKit.OK, 6, -1);
        Checks.outcome("not what came then", kit, 0, OutcomeKit.OK, 5, -1);
    }

    private static void outside() {
        Checks.about("Promise 3", "BAD (the draft stays) if f is outside");
        for (int f : Kits.NO_FUNCTIONS) {
            OutcomeKit kit = new OutcomeKit();
            Checks.due("define(" + f + ") of nothing", kit.define(f), OutcomeKit.BAD);
            Checks.feed(kit, Code.give(5));
            Checks.due("define(" + f + ")", kit.define(f), OutcomeKit.BAD);
            Checks.due("define(" + f + ") again", kit.define(f), OutcomeKit.BAD);
            Checks.due("define(3) of the draft that stayed", kit.define(3), OutcomeKit.OK);
            Checks.outcomeOf(3, "the draft that stayed", kit, 0, OutcomeKit.OK, 5, -1);
        }
        for (int f = 0; f < 4; f++) {
            OutcomeKit kit = new OutcomeKit();
            Checks.give(kit, f, Code.skip());
        }
    }

    private static void outsideChangesNothing() {
        Checks.about("Promises 3 and 4", "BAD (the draft stays) if f is outside; the latest define that was not BAD");
        for (int[] draft : Kits.drafts()) {
            OutcomeKit kit = Kits.usedWith(draft);
            for (int f : Kits.NO_FUNCTIONS) {
                Checks.due("define(" + f + ")", kit.define(f), OutcomeKit.BAD);
            }
            Checks.alike("after BAD", kit, Kits.usedWith(draft));
        }
    }

    private static void shapeNothing() {
        Checks.about("Promise 3", "SHAPE: the draft is no S");
        Checks.due("no token", defined(new int[0]), OutcomeKit.SHAPE);
        Checks.due("one token", defined(Code.skip()), OutcomeKit.OK);
    }

    private static int[][] statements() {
        int[] one = Code.num(1);
        int[] skip = Code.skip();
        int[] c = Code.grab(5, 4, skip);
        int[] d = Code.grab(0, 0, Code.say(1));
        return new int[][] {Code.set(5, one), Code.say(1), Code.when(one, skip, skip), Code.loop(3, one, skip), Code.seq(skip, skip),
            skip, Code.raise(3, one), Code.attempt(skip, c), Code.attempt(skip, c, d), Code.ensure(skip, skip), Code.ensure(skip, c, skip),
            Code.ensure(skip, c, d, skip), Code.loop(0, one, Code.leave(0)), Code.loop(0, one, Code.again(0)), Code.give(one),
            Code.give(Code.var(5)), Code.give(Code.add(one, one)), Code.give(Code.sub(one, one)), Code.give(Code.mul(one, one)),
            Code.give(Code.div(one, one)), Code.give(Code.less(one, one)), Code.give(Code.not(one)), Code.give(Code.call(3, one))};
    }

    private static void shapeTooFew() {
        Checks.about("Promise 3", "SHAPE: the draft is no S");
        int[][] statements = statements();
        for (int i = 0; i < statements.length; i++) {
            int whole = statements[i].length / 2;
            for (int n = 0; n < whole; n++) {
                Checks.due("statement " + i + ", its first " + n, defined(Code.firstOf(n, statements[i])), OutcomeKit.SHAPE);
            }
            Checks.due("statement " + i, defined(statements[i]), OutcomeKit.OK);
        }
    }

    private static void shapeTooMany() {
        Checks.about("Promise 3", "SHAPE: the draft is no S");
        int[][] more = {Code.num(1), Code.skip(), Code.grab(0, 0, Code.skip())};
        int[][] statements = statements();
        for (int i = 0; i < statements.length; i++) {
            for (int[] tail : more) {
                Checks.due("statement " + i + " and more", defined(Code.row(statements[i], tail)), OutcomeKit.SHAPE);
            }
        }
    }

    private static void shapeWrongSort() {
        Checks.about("Promise 3", "SHAPE: the draft is no S");
        int[][] noStatements = {
            Code.num(1), Code.var(0), Code.add(Code.num(1), Code.num(2)), Code.not(Code.num(1)), Code.call(0, Code.num(1)),
            Code.grab(0, 0, Code.skip()), Code.node(11, 0, Code.skip()), Code.node(14, 0, Code.skip(), Code.num(1)),
            Code.node(17, 1, Code.skip(), Code.skip()), Code.node(17, 4, Code.skip(), Code.grab(0, 0, Code.skip())),
            Code.node(13, 0, Code.skip(), Code.skip()), Code.node(12, 0, Code.num(1), Code.skip(), Code.num(1)),
            Code.node(7, 0, Code.skip()), Code.node(18, 0, Code.num(1)), Code.node(21, 0, Code.grab(0, 0, Code.skip())),
        };
        for (int i = 0; i < noStatements.length; i++) {
            Checks.due("no statement " + i, defined(noStatements[i]), OutcomeKit.SHAPE);
        }
    }

    private static void everyForm() {
        Checks.about("Promise 3", "Else OK.");
        int[] e = Code.add(Code.sub(Code.var(5), Code.num(-1)), Code.mul(Code.not(Code.var(1)), Code.call(3, Code.num(2))));
        int[] d = Code.less(Code.div(Code.num(1), Code.num(2)), Code.var(0));
        Checks.due("all of E", defined(Code.set(5, Code.add(e, d))), OutcomeKit.OK);
        Checks.due("THROW", defined(Code.raise(3, e)), OutcomeKit.OK);
        Checks.due("IF", defined(Code.when(e, Code.skip(), Code.give(d))), OutcomeKit.OK);
        Checks.due("a TRY in each part of TRY", defined(Code.ensure(Code.ensure(Code.skip(), Code.skip()),
            Code.grab(0, 0, Code.attempt(Code.skip(), Code.grab(1, 1, Code.skip()))), Code.ensure(Code.skip(), Code.skip()))), OutcomeKit.OK);
    }

    private static void unboundLabels() {
        Checks.about("Promise 3", "UNBOUND: a BREAK or CONTINUE without its WHILE");
        for (int l = 0; l < 4; l++) {
            Checks.due("BREAK " + l + " alone", defined(Code.leave(l)), OutcomeKit.UNBOUND);
            Checks.due("CONTINUE " + l + " alone", defined(Code.again(l)), OutcomeKit.UNBOUND);
            for (int m = 0; m < 4; m++) {
                int want = l == m ? OutcomeKit.OK : OutcomeKit.UNBOUND;
                Checks.due("WHILE " + l + " BREAK " + m, defined(Code.loop(l, Code.num(0), Code.leave(m))), want);
                Checks.due("WHILE " + l + " CONTINUE " + m, defined(Code.loop(l, Code.num(0), Code.again(m))), want);
            }
        }
    }

    private static void unboundAround() {
        Checks.about("Promise 3", "UNBOUND: a BREAK or CONTINUE without its WHILE");
        int[] loop = Code.loop(1, Code.num(0), Code.skip());
        Checks.due("its last token is the BREAK", defined(Code.loop(1, Code.num(0), Code.seq(Code.skip(), Code.leave(1)))), OutcomeKit.OK);
        Checks.due("the token behind its last", defined(Code.seq(loop, Code.leave(1))), OutcomeKit.UNBOUND);
        Checks.due("BREAK before", defined(Code.seq(Code.leave(1), loop)), OutcomeKit.UNBOUND);
        Checks.due("a WHILE of that label in the other S", defined(Code.when(Code.num(1), loop, Code.again(1))), OutcomeKit.UNBOUND);
        int[] deep = Code.loop(2, Code.num(0), Code.when(Code.num(1), Code.seq(Code.again(1), Code.leave(2)), Code.leave(1)));
        Checks.due("two loops", defined(Code.loop(1, Code.num(0), deep)), OutcomeKit.OK);
        Checks.due("the inner loop alone", defined(deep), OutcomeKit.UNBOUND);
        Checks.due("behind the inner of two", defined(Code.loop(1, Code.num(0), Code.seq(loop, Code.leave(1)))), OutcomeKit.OK);
        OutcomeKit kit = Checks.kitWith(Code.loop(0, Code.num(1), Code.set(1, Code.call(2, Code.num(0)))));
        Checks.refuse("a WHILE of another function", kit, 2, OutcomeKit.UNBOUND, 0, Code.leave(0));
    }

    private static void unboundInTry() {
        Checks.about("Promise 3", "UNBOUND: a BREAK or CONTINUE without its WHILE");
        int[][] jumps = {Code.leave(3), Code.again(3)};
        for (int[] jump : jumps) {
            for (int part = 0; part < 4; part++) {
                int[][] s = {Code.skip(), Code.skip(), Code.skip(), Code.skip()};
                s[part] = jump;
                int[] code = Code.ensure(s[0], Code.grab(0, 0, s[1]), Code.grab(0, 4, s[2]), s[3]);
                Checks.due("in part " + part + " of TRY", defined(code), OutcomeKit.UNBOUND);
                Checks.due("in part " + part + " of TRY in WHILE", defined(Code.loop(3, Code.num(1), code)), OutcomeKit.OK);
            }
        }
    }

    private static void shapeBeforeUnbound() {
        Checks.about("Promise 3", "SHAPE: the draft is no S; UNBOUND: a BREAK or CONTINUE without its WHILE");
        Checks.due("SEQ BREAK", defined(Code.node(14, 0, Code.leave(0))), OutcomeKit.SHAPE);
        Checks.due("BREAK SKIP", defined(Code.node(19, 0, Code.skip())), OutcomeKit.SHAPE);
        Checks.due("SEQ BREAK SKIP", defined(Code.seq(Code.leave(0), Code.skip())), OutcomeKit.UNBOUND);
    }

    private static void keepsABody() {
        Checks.about("Promise 3", "f keeps what it had in these cases");
        for (int f = 0; f < 4; f++) {
            OutcomeKit kit = new OutcomeKit();
            Checks.give(kit, f, Code.give(5));
            Checks.refuse("an E", kit, f, OutcomeKit.SHAPE, 0, Code.num(1));
            Checks.outcomeOf(f, "after SHAPE", kit, 0, OutcomeKit.OK, 5, -1);
            Checks.refuse("too many", kit, f, OutcomeKit.SHAPE, 2, Code.node(21, 0, Code.num(6), Code.skip()));
            Checks.outcomeOf(f, "after SHAPE at the end", kit, 0, OutcomeKit.OK, 5, -1);
            Checks.refuse("a lone BREAK", kit, f, OutcomeKit.UNBOUND, 3, Code.seq(Code.give(6), Code.leave(0)));
            Checks.outcomeOf(f, "after UNBOUND", kit, 0, OutcomeKit.OK, 5, -1);
            Checks.due("drop(" + f + ")", kit.drop(f), true);
        }
    }

    private static void keepsNone() {
        Checks.about("Promise 3", "f keeps what it had in these cases");
        for (int f = 0; f < 4; f++) {
            OutcomeKit kit = new OutcomeKit();
            Checks.refuse("an E", kit, f, OutcomeKit.SHAPE, 0, Code.num(1));
            Checks.due("drop(" + f + ") after SHAPE", kit.drop(f), false);
            Checks.refuse("a lone CONTINUE", kit, f, OutcomeKit.UNBOUND, 0, Code.again(3));
            Checks.due("drop(" + f + ") after UNBOUND", kit.drop(f), false);
            Checks.outcomeOf(f, "no body", kit, 0, OutcomeKit.THROWN, f, 1);
        }
    }

    private static void longestBodies() {
        Checks.about("Promise 3 and Terms", "a statement S of at most 40 tokens");
        for (int tokens = 37; tokens <= 40; tokens++) {
            OutcomeKit kit = new OutcomeKit();
            for (int f = 3; f >= 0; f--) {
                int[] body = Code.padded(tokens, Code.give(Code.add(Code.var(0), Code.num(f))));
                Checks.due("tokens", body.length / 2, tokens);
                Checks.give(kit, f, body);
            }
            for (int f = 0; f < 4; f++) {
                Checks.outcomeOf(f, tokens + " tokens", kit, 100, OutcomeKit.OK, 100 + f, -1);
            }
        }
    }
}
