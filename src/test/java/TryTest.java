/** Terms, TRY: which CATCH is done, and that a finally part is done however the rest ended. */
public final class TryTest {
    private static final int[] NINE = Code.say(9);

    public static void main(String[] args) {
        whichCatch();
        twoCatches();
        catchEndings();
        finallyAfterAll();
        finallyWins();
        nested();
        loops();
        everyRestAndFinallyPart();
        everyCatchAndFinallyPart();
        everyCatch();
        caughtValues();
        caughtInOperands();
        callsInFinally();
        deepNests();
        Checks.end("TryTest");
    }

    private static void whichCatch() {
        Checks.about("Promise 6, Terms, TRY", "the first C that is for this kind: the value becomes variable v, and then its S is done (if there is no such C it throws on)");
        for (int thrown = 0; thrown < 4; thrown++) {
            for (int c = 0; c <= 4; c++) {
                int[] code = Code.attempt(Code.raise(thrown, 50), Code.grab(c, c, Code.say(Code.var(c))));
                if (c == thrown || c == 4) {
                    Checks.returns("THROW " + thrown + " CATCH " + c, code, 0, 50);
                } else {
                    Checks.throwsOut("THROW " + thrown + " CATCH " + c, code, thrown, 50);
                }
            }
        }
        for (int v = 0; v < 6; v++) {
            int[] body = Code.seq(Code.say(Code.var(v)), Code.set(v, Code.num(3)), Code.say(Code.var((v + 1) % 6)));
            Checks.returns("CATCH into " + v, Code.attempt(Code.raise(1, 8), Code.grab(v, 1, body)), 0, 8, 0);
        }
        Checks.returns("nothing thrown", Code.attempt(Code.say(1), Code.grab(0, 4, Code.say(2))), 0, 1);
        Checks.returns("RETURN is not caught", Code.attempt(Code.give(1), Code.grab(0, 4, Code.say(2))), 1);
        Checks.returns("after the catch", Code.seq(Code.attempt(Code.raise(0, 1), Code.grab(0, 4, Code.say(2))), Code.say(3)), 0, 2, 3);
        Checks.returns("DIV by 0", Code.attempt(Code.say(Code.div(Code.num(6), Code.num(0))), Code.grab(1, 0, Code.give(Code.var(1)))), 6);
    }

    private static void twoCatches() {
        Checks.about("Promise 6, Terms, TRY", "the first C that is for this kind");
        int[] one = Code.grab(1, 1, Code.say(Code.add(Code.num(100), Code.var(1))));
        int[] two = Code.grab(2, 2, Code.say(Code.add(Code.num(200), Code.var(2))));
        int[] all = Code.grab(3, 4, Code.say(Code.add(Code.num(300), Code.var(3))));
        Checks.returns("the first", Code.attempt(Code.raise(1, 5), one, two), 0, 105);
        Checks.returns("the second", Code.attempt(Code.raise(2, 5), one, two), 0, 205);
        Checks.throwsOut("neither", Code.attempt(Code.raise(3, 5), one, two), 3, 5);
        Checks.returns("all comes first", Code.attempt(Code.raise(2, 5), all, two), 0, 305);
        Checks.returns("all comes last", Code.attempt(Code.raise(2, 5), two, all), 0, 205);
        Checks.returns("the same twice", Code.attempt(Code.raise(1, 5), one, Code.grab(0, 1, NINE)), 0, 105);
        Checks.returns("with a finally part", Code.ensure(Code.raise(2, 5), one, two, NINE), 0, 205, 9);
        Checks.throwsOut("neither, with a finally part", Code.ensure(Code.raise(0, 5), one, two, NINE), 0, 5, 9);
        int[] other = Code.attempt(Code.raise(1, 5), Code.grab(1, 1, Code.raise(2, 6)), two);
        Checks.throwsOut("thrown in the first", other, 2, 6);
        int[] same = Code.attempt(Code.raise(1, 5), Code.grab(1, 1, Code.raise(1, Code.add(Code.var(1), Code.num(1)))), all);
        Checks.throwsOut("thrown again", same, 1, 6);
    }

    private static void catchEndings() {
        Checks.about("Promise 6, Terms, TRY", "how that ends is how TRY ends so far");
        int[] bad = Code.raise(1, 5);
        Checks.returns("the catch returns", Code.seq(Code.attempt(bad, Code.grab(1, 1, Code.give(Code.var(1)))), NINE), 5);
        Checks.returns("the catch breaks", Code.seq(Code.loop(0, Code.num(1), Code.attempt(bad, Code.grab(1, 1, Code.leave(0)))), NINE), 0, 9);
        Checks.throwsOut("the catch's E throws", Code.attempt(bad, Code.grab(1, 4, Code.say(Code.div(Code.var(1), Code.num(0))))), 0, 5);
        Checks.returns("the catch returns, finally", Code.ensure(bad, Code.grab(1, 1, Code.give(Code.var(1))), NINE), 5, 9);
        Checks.throwsOut("the catch throws, finally", Code.ensure(bad, Code.grab(1, 1, Code.raise(3, 7)), NINE), 3, 7, 9);
        Checks.returns("the catch ends, finally", Code.seq(Code.ensure(bad, Code.grab(1, 1, Code.say(7)), NINE), Code.say(8)), 0, 7, 9, 8);
    }

    private static void finallyAfterAll() {
        Checks.about("Promise 6, Terms, TRY", "With a finally part that is done then, however the rest ended: if it ends normally, TRY ends as the rest did");
        Checks.returns("after the end", Code.seq(Code.ensure(Code.say(1), NINE), Code.say(2)), 0, 1, 9, 2);
        Checks.returns("after RETURN", Code.seq(Code.ensure(Code.give(1), NINE), Code.say(2)), 1, 9);
        Checks.throwsOut("after THROW", Code.seq(Code.ensure(Code.raise(2, 1), NINE), Code.say(2)), 2, 1, 9);
        Checks.throwsOut("after DIV by 0", Code.ensure(Code.give(Code.div(Code.num(4), Code.num(0))), NINE), 0, 4, 9);
        int[] sees = Code.ensure(Code.seq(Code.set(1, Code.num(6)), Code.give(Code.var(1))), Code.seq(Code.say(Code.var(1)), Code.set(1, Code.num(7))));
        Checks.returns("the value stays as it was", sees, 6, 6);
        int[] busy = Code.ensure(Code.raise(3, 6), Code.when(Code.less(Code.num(1), Code.num(2)), Code.set(2, Code.num(5)), Code.skip()));
        Checks.throwsOut("the exception stays as it was", busy, 3, 6);
        int[] inner = Code.ensure(Code.raise(3, 6), Code.attempt(Code.raise(1, 2), Code.grab(0, 1, Code.say(Code.var(0)))));
        Checks.throwsOut("a whole TRY in it", inner, 3, 6, 2);
        int[] loop = Code.ensure(Code.give(6), Code.loop(0, Code.num(1), Code.seq(Code.say(1), Code.leave(0))));
        Checks.returns("a whole WHILE in it", loop, 6, 1);
        int[] own = Code.ensure(Code.skip(), Code.grab(0, 4, Code.say(1)), Code.raise(2, 3));
        Checks.throwsOut("what it throws is not caught there", own, 2, 3);
    }

    private static void finallyWins() {
        Checks.about("Promise 6, Terms, TRY", "else as the finally part does");
        int[][] rests = {Code.skip(), Code.give(1), Code.raise(1, 1)};
        for (int i = 0; i < rests.length; i++) {
            Checks.returns("RETURN wins " + i, Code.seq(Code.ensure(rests[i], Code.give(5)), NINE), 5);
            Checks.throwsOut("THROW wins " + i, Code.seq(Code.ensure(rests[i], Code.raise(3, 5)), NINE), 3, 5);
            Checks.throwsOut("DIV wins " + i, Code.ensure(rests[i], Code.say(Code.div(Code.num(5), Code.num(0)))), 0, 5);
            Checks.returns("BREAK wins " + i, Code.seq(Code.loop(1, Code.num(1), Code.ensure(rests[i], Code.leave(1))), NINE), 0, 9);
            int[] on = Code.loop(2, Code.less(Code.var(0), Code.num(2)),
                Code.seq(Code.set(0, Code.add(Code.var(0), Code.num(1))), Code.ensure(rests[i], Code.again(2))));
            Checks.returns("CONTINUE wins " + i, Code.seq(on, Code.say(Code.var(0))), 0, 2);
        }
    }

    private static void nested() {
        Checks.about("Promise 6, Terms, TRY", "TRY: the S; if it throws, the first C that is for this kind");
        Checks.throwsOut("from within", Code.ensure(Code.ensure(Code.raise(1, 4), Code.say(1)), Code.say(2)), 1, 4, 1, 2);
        Checks.returns("caught without", Code.attempt(Code.ensure(Code.raise(1, 4), Code.say(1)), Code.grab(0, 1, Code.say(Code.var(0)))), 0, 1, 4);
        Checks.returns("another one without", Code.attempt(Code.ensure(Code.raise(1, 4), Code.raise(2, 5)), Code.grab(0, 1, Code.say(1)),
            Code.grab(0, 2, Code.say(Code.var(0)))), 0, 5);
        Checks.returns("the inner is not for it", Code.attempt(Code.attempt(Code.raise(1, 4), Code.grab(0, 2, Code.say(2))),
            Code.grab(0, 1, Code.say(1))), 0, 1);
        Checks.returns("RETURN within, THROW, caught", Code.attempt(Code.ensure(Code.give(1), Code.raise(0, 8)), Code.grab(2, 0, Code.say(Code.var(2)))), 0, 8);
        Checks.returns("the inner RETURN wins", Code.ensure(Code.ensure(Code.raise(1, 1), Code.give(2)), NINE), 2, 9);
        Checks.returns("the outer RETURN wins", Code.ensure(Code.ensure(Code.raise(1, 1), Code.give(2)), Code.give(3)), 3);
        Checks.returns("finally in finally", Code.ensure(Code.give(1), Code.ensure(Code.say(2), Code.say(3))), 1, 2, 3);
        Checks.throwsOut("THROW in finally in finally", Code.ensure(Code.give(1), Code.ensure(Code.raise(1, 2), Code.say(3))), 1, 2, 3);
    }

    private static void loops() {
        Checks.about("Promise 6, Terms, TRY", "With a finally part that is done then, however the rest ended");
        int[] count = Code.set(0, Code.add(Code.var(0), Code.num(1)));
        int[] below2 = Code.less(Code.var(0), Code.num(2));
        Checks.returns("BREAK through finally", Code.seq(Code.loop(0, Code.num(1), Code.seq(Code.ensure(Code.leave(0), Code.say(1)), Code.say(2))), Code.say(3)), 0, 1, 3);
        Checks.returns("CONTINUE through finally", Code.loop(0, below2, Code.seq(count, Code.ensure(Code.again(0), Code.say(1)), Code.say(2))), 0, 1, 1);
        int[] two = Code.loop(0, below2, Code.seq(count, Code.loop(1, Code.num(1), Code.ensure(Code.ensure(Code.again(0), Code.say(1)), Code.say(2)))));
        Checks.returns("CONTINUE the outer through two", two, 0, 1, 2, 1, 2);
        int[] turned = Code.loop(0, Code.num(1), Code.seq(Code.loop(1, Code.num(1), Code.ensure(Code.leave(1), Code.leave(0))), Code.say(5)));
        Checks.returns("BREAK turned to the outer", turned, 0);
        int[] back = Code.loop(0, Code.num(1), Code.seq(Code.loop(1, Code.num(1), Code.ensure(Code.leave(0), Code.leave(1))), Code.say(5), Code.leave(0)));
        Checks.returns("BREAK turned to the inner", back, 0, 5);
        int[] ends = Code.seq(Code.loop(0, Code.num(1), Code.ensure(Code.leave(0), Code.loop(1, Code.num(1), Code.leave(1)))), Code.say(6));
        Checks.returns("another BREAK done in finally", ends, 0, 6);
        int[] caught = Code.loop(0, below2, Code.seq(count, Code.attempt(Code.raise(0, 3), Code.grab(1, 0, Code.again(0))), Code.say(7)));
        Checks.returns("CONTINUE in a catch", caught, 0);
        int[] head = Code.attempt(Code.loop(0, Code.div(Code.num(4), Code.num(0)), Code.skip()), Code.grab(1, 0, Code.say(Code.var(1))));
        Checks.returns("the E of WHILE throws", head, 0, 4);
    }

    /** Normally, BREAK, CONTINUE, RETURN and THROW, with this number in the last two. */
    private static int[][] endings(int n) {
        return new int[][] {Code.skip(), Code.leave(0), Code.again(0), Code.give(n), Code.raise(n % 4, n)};
    }

    /** At most two turns of a WHILE with this TRY in it: what they say tells how TRY ended. */
    private static void ended(String what, int[] attempt, int ending, int n, int... inTry) {
        int[] turn = Code.seq(Code.count(1), attempt, Code.say(5));
        int[] code = Code.seq(Code.loop(0, Code.less(Code.var(1), Code.num(2)), turn), Code.say(6));
        int[][] behind = {Code.row(new int[] {5}, inTry, new int[] {5, 6}), {6}, Code.row(inTry, new int[] {6}), {}, {}};
        int[] said = Code.row(inTry, behind[ending]);
        if (ending == 4) {
            Checks.throwsOut(what, code, n % 4, n, said);
        } else {
            Checks.returns(what, code, ending == 3 ? n : 0, said);
        }
    }

    private static void everyRestAndFinallyPart() {
        Checks.about("Promise 6, Terms, TRY", "if it ends normally, TRY ends as the rest did; else as the finally part does");
        for (int rest = 0; rest < 5; rest++) {
            for (int last = 0; last < 5; last++) {
                int[] code = Code.ensure(endings(21)[rest], Code.seq(NINE, endings(34)[last]));
                ended("rest " + rest + ", finally part " + last, code, last == 0 ? rest : last, last == 0 ? 21 : 34, 9);
            }
        }
    }

    private static void everyCatchAndFinallyPart() {
        Checks.about("Promise 6, Terms, TRY", "how that ends is how TRY ends so far; if it ends normally, TRY ends as the rest did; else as the finally part does");
        for (int caught = 0; caught < 5; caught++) {
            for (int last = 0; last < 5; last++) {
                int[] handler = Code.grab(2, 3, Code.seq(Code.say(Code.var(2)), endings(21)[caught]));
                int[] code = Code.ensure(Code.raise(3, 70), handler, Code.seq(NINE, endings(34)[last]));
                ended("catch " + caught + ", finally part " + last, code, last == 0 ? caught : last, last == 0 ? 21 : 34, 70, 9);
            }
        }
    }

    private static void everyCatch() {
        Checks.about("Promise 6, Terms, TRY", "how that ends is how TRY ends so far");
        for (int ending = 0; ending < 5; ending++) {
            int[] other = Code.grab(2, 2, Code.say(8));
            int[] handler = Code.grab(2, 3, Code.seq(Code.say(Code.var(2)), endings(21)[ending]));
            ended("catch " + ending, Code.attempt(Code.raise(3, 70), handler), ending, 21, 70);
            ended("second catch " + ending, Code.attempt(Code.raise(3, 70), other, handler), ending, 21, 70);
            ended("no catch " + ending, Code.attempt(endings(21)[ending], Code.grab(2, 0, Code.say(8))), ending, 21);
        }
    }

    private static void caughtValues() {
        Checks.about("Promise 6, Terms, TRY", "the value becomes variable v; CATCH's c is 8 v + k, k being 0..3, or 4 for all");
        for (int v = 0; v < 6; v++) {
            for (int k = 0; k <= 4; k++) {
                for (int value : new int[] {Integer.MIN_VALUE, 0, Integer.MAX_VALUE}) {
                    int[] code = Code.attempt(Code.raise(k % 4, value), Code.grab(v, k, Code.give(Code.var(v))));
                    Checks.outcome("CATCH " + (8 * v + k), Checks.kitWith(code), 3, OutcomeKit.OK, value, -1);
                }
            }
        }
    }

    private static void caughtInOperands() {
        Checks.about("Promise 6, Terms, TRY", "if it throws, the first C that is for this kind");
        OutcomeKit kit = Checks.kitWith(Code.give(Code.add(Code.num(1000), Code.add(Code.call(1, Code.num(5)), Code.num(30)))));
        Checks.give(kit, 1, Code.attempt(Code.set(1, Code.add(Code.num(2), Code.mul(Code.num(7), Code.div(Code.var(0), Code.num(0))))),
            Code.grab(2, 0, Code.give(Code.add(Code.var(2), Code.num(1))))));
        Checks.outcome("half-done operands", kit, 0, OutcomeKit.OK, 1036, -1);
    }

    private static void callsInFinally() {
        Checks.about("Promise 6, Terms, TRY", "With a finally part that is done then, however the rest ended");
        OutcomeKit kit = Checks.kitWith(Code.ensure(Code.raise(2, 5), Code.say(Code.call(1, Code.num(3)))));
        Checks.give(kit, 1, Code.ensure(Code.give(Code.var(0)), Code.attempt(Code.raise(1, 4), Code.grab(1, 1, Code.say(Code.var(1))))));
        Checks.outcome("CALL in finally", kit, 0, OutcomeKit.THROWN, 5, 2, 4, 3);
        Checks.give(kit, 1, Code.raise(3, Code.var(0)));
        Checks.outcome("CALL in finally throws", kit, 0, OutcomeKit.THROWN, 3, 3);
        int[] every = Code.ensure(Code.give(Code.call(0, Code.add(Code.var(0), Code.num(1)))), Code.say(Code.var(0)));
        Checks.outcome("a finally part of each function", Checks.kitWith(every), 1, OutcomeKit.THROWN, 0, 2,
            12, 11, 10, 9, 8, 7, 6, 5, 4, 3, 2, 1);
    }

    private static void deepNests() {
        Checks.about("Promise 6, Terms, TRY", "TRY: a statement S of at most 40 tokens");
        int[] code = Code.give(Code.var(0));
        for (int i = 0; i < 19; i++) {
            code = Code.ensure(code, Code.skip());
        }
        Checks.outcome("19 finally parts", Checks.kitWith(code), 6, OutcomeKit.OK, 6, -1);
        code = Code.give(Code.call(0, Code.num(1)));
        for (int i = 0; i < 18; i++) {
            code = Code.ensure(code, Code.skip());
        }
        Checks.outcome("18 finally parts, 12 deep", Checks.kitWith(code), 0, OutcomeKit.THROWN, 0, 2);
        int[] deep = Code.call(0, Code.num(1));
        for (int i = 0; i < 37; i++) {
            deep = Code.not(deep);
        }
        Checks.outcome("37 NOTs, 12 deep", Checks.kitWith(Code.say(deep)), 0, OutcomeKit.THROWN, 0, 2);
        int[] turns = Code.ensure(Code.raise(1, 5), Code.grab(1, 1, Code.raise(2, 6)), Code.grab(1, 2, Code.say(1)), Code.say(2));
        turns = Code.ensure(turns, Code.grab(2, 2, Code.raise(3, 7)), Code.say(3));
        turns = Code.ensure(turns, Code.grab(3, 3, Code.say(Code.add(Code.var(3), Code.add(Code.var(2), Code.var(1))))), Code.say(4));
        Checks.returns("thrown on from catch to catch", turns, 0, 2, 3, 18, 4);
    }
}
