/** Counts wrong answers, prints each, and ends a test with exit code 1 if there was one. */
final class Checks {
    private static int made = 0;
    private static int wrong = 0;

    private Checks() {
    }

    static void due(String what, long got, long want) {
        made++;
        if (got != want) {
            wrong++;
            System.out.println(what + ": answered " + got + ", due is " + want);
        }
    }

    static void due(String what, boolean got, boolean want) {
        due(what, got ? 1L : 0L, want ? 1L : 0L);
    }

    /** Appends a program to the draft; every token must be taken. */
    static void feed(OutcomeKit kit, int[] code) {
        for (int i = 0; i < code.length; i += 2) {
            due("token(" + code[i] + ", " + code[i + 1] + ")", kit.token(code[i], code[i + 1]), true);
        }
    }

    /** Gives function f a body; define must answer OK. */
    static void give(OutcomeKit kit, int f, int[] code) {
        feed(kit, code);
        due("define(" + f + ")", kit.define(f), OutcomeKit.OK);
        due("place() after OK", kit.place(), -1);
    }

    /** A new object in which function 0 has this body. */
    static OutcomeKit kitWith(int[] code) {
        OutcomeKit kit = new OutcomeKit();
        give(kit, 0, code);
        return kit;
    }

    /** Runs function 0 and looks at the whole outcome but the steps. */
    static void outcome(String what, OutcomeKit kit, int a, int answer, int result, int kind, int... said) {
        due(what + ": run(0, " + a + ")", kit.run(0, a), answer);
        due(what + ": result()", kit.result(), result);
        due(what + ": kind()", kit.kind(), kind);
        due(what + ": says()", kit.says(), said.length);
        for (int k = 0; k <= said.length; k++) {
            due(what + ": said(" + k + ")", kit.said(k), k < said.length ? said[k] : 0);
        }
    }

    /** The program, run with argument 0, returns this (0 if it ends normally) and says that. */
    static void returns(String what, int[] code, int result, int... said) {
        outcome(what, kitWith(code), 0, OutcomeKit.OK, result, -1, said);
    }

    /** The program, run with argument 0, throws this and says that. */
    static void throwsOut(String what, int[] code, int kind, int value, int... said) {
        outcome(what, kitWith(code), 0, OutcomeKit.THROWN, value, kind, said);
    }

    static void end(String test) {
        System.out.println(test + ": " + made + " checks, " + wrong + " wrong");
        if (wrong != 0) {
            System.exit(1);
        }
    }
}
