/** Counts wrong answers, prints each, and ends a test with exit code 1 if there was one. */
final class Checks {
    private static int made = 0;
    private static int wrong = 0;
    private static String sentence = "";

    private Checks() {
    }

    /** Names the promise, or the part of the document, and its words that the next answers are about. */
    static void about(String where, String words) {
        sentence = where + ", \"" + words + "\": ";
    }

    static void due(String what, long got, long want) {
        made++;
        if (got != want) {
            wrong++;
            System.out.println(sentence + what + ": answered " + got + ", due is " + want);
        }
    }

    static void due(String what, boolean got, boolean want) {
        due(what, got ? 1L : 0L, want ? 1L : 0L);
    }

    /** Appends a program to the draft; every token must be taken. */
    static void feed(OutcomeKit kit, int[] code) {
        for (int i = 0; i < code.length; i += 2) {
            due("token(" + code[i] + ", " + code[i + 1] + ")", kit.token(code[i], code[i + 1]), true);
        }
    }

    /** Gives function f a body; define must answer OK. */
    static void give(OutcomeKit kit, int f, int[] code) {
        feed(kit, code);
        due("define(" + f + ")", kit.define(f), OutcomeKit.OK);
        due("place() after OK", kit.place(), -1);
    }

    /** Offers a body to function f that define must refuse with this answer and place. */
    static void refuse(String what, OutcomeKit kit, int f, int answer, int place, int[] code) {
        feed(kit, code);
        due(what + ": define(" + f + ")", kit.define(f), answer);
        due(what + ": place()", kit.place(), place);
    }

    /** A new object in which the first functions have these bodies. */
    static OutcomeKit kitWith(int[]... bodies) {
        OutcomeKit kit = new OutcomeKit();
        for (int f = 0; f < bodies.length; f++) {
            give(kit, f, bodies[f]);
        }
        return kit;
    }

    /** Runs function 0 and looks at the whole outcome but the steps. */
    static void outcome(String what, OutcomeKit kit, int a, int answer, int result, int kind, int... said) {
        outcomeOf(0, what, kit, a, answer, result, kind, said);
    }

    /** Runs function f and looks at the whole outcome but the steps. */
    static void outcomeOf(int f, String what, OutcomeKit kit, int a, int answer, int result, int kind, int... said) {
        due(what + ": run(" + f + ", " + a + ")", kit.run(f, a), answer);
        due(what + ": result()", kit.result(), result);
        due(what + ": kind()", kit.kind(), kind);
        due(what + ": says()", kit.says(), said.length);
        for (int k = 0; k <= said.length; k++) {
            due(what + ": said(" + k + ")", kit.said(k), k < said.length ? said[k] : 0);
        }
    }

    /** The program, run with argument 0, returns this (0 if it ends normally) and says that. */
    static void returns(String what, int[] code, int result, int... said) {
        outcome(what, kitWith(code), 0, OutcomeKit.OK, result, -1, said);
    }

    /** The program, run with argument 0, throws this and says that. */
    static void throwsOut(String what, int[] code, int kind, int value, int... said) {
        outcome(what, kitWith(code), 0, OutcomeKit.THROWN, value, kind, said);
    }

    /** Runs function f and looks at the answer and the steps. */
    static void steps(String what, OutcomeKit kit, int f, int a, int answer, int steps) {
        due(what + ": run(" + f + ", " + a + ")", kit.run(f, a), answer);
        due(what + ": steps()", kit.steps(), steps);
    }

    /** The draft has room for exactly this many tokens more. It is full after that. */
    static void room(String what, OutcomeKit kit, int tokens) {
        for (int i = 0; i < tokens; i++) {
            due(what + ": token " + i + " of the room", kit.token(15, 0), true);
        }
        due(what + ": a token beyond the room", kit.token(15, 0), false);
    }

    /** Asks two objects for all that can be asked; they must answer the same. Both are used up by that. */
    static void alike(String what, OutcomeKit got, OutcomeKit want) {
        alikeLatest(what + ": at once", got, want);
        for (int f = 0; f < 4; f++) {
            due(what + ": run(" + f + ", 5)", got.run(f, 5), want.run(f, 5));
            alikeLatest(what + ": after run(" + f + ", 5)", got, want);
        }
        due(what + ": define(1) of the draft", got.define(1), want.define(1));
        due(what + ": place() of the draft", got.place(), want.place());
        due(what + ": run(1, 6) of the draft", got.run(1, 6), want.run(1, 6));
        alikeLatest(what + ": after run(1, 6) of the draft", got, want);
        for (int f = 0; f < 4; f++) {
            due(what + ": drop(" + f + ")", got.drop(f), want.drop(f));
        }
    }

    private static void alikeLatest(String what, OutcomeKit got, OutcomeKit want) {
        due(what + ": place()", got.place(), want.place());
        due(what + ": result()", got.result(), want.result());
        due(what + ": kind()", got.kind(), want.kind());
        due(what + ": steps()", got.steps(), want.steps());
        due(what + ": says()", got.says(), want.says());
        for (int k : new int[] {0, 1, 2, 3, 38, 39, 40}) {
            due(what + ": said(" + k + ")", got.said(k), want.said(k));
        }
    }

    static void end(String test) {
        System.out.println(test + ": " + made + " checks, " + wrong + " wrong");
        if (wrong != 0) {
            System.exit(1);
        }
    }
}
