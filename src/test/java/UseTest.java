/** What it is: an object is used for at most 512 calls; the last of them still answers as the document says. */
public final class UseTest {
    private static int calls;

    public static void main(String[] args) {
        fiveHundredAndTwelve();
        manyDefines();
        manyRuns();
        Checks.end("UseTest");
    }

    private static void due(String what, long got, long want) {
        calls++;
        Checks.due("call " + calls + ", " + what, got, want);
    }

    private static void fiveHundredAndTwelve() {
        Checks.about("What it is", "An object is used for at most 512 calls after it has been made");
        OutcomeKit kit = new OutcomeKit();
        calls = 0;
        for (int round = 0; round < 64; round++) {
            int f = round % 4;
            due("token(21, 0)", kit.token(21, 0) ? 1 : 0, 1);
            due("token(0, round)", kit.token(0, round) ? 1 : 0, 1);
            due("define", kit.define(f), OutcomeKit.OK);
            due("run", kit.run(f, 0), OutcomeKit.OK);
            due("steps()", kit.steps(), 1);
            due("drop", kit.drop(f) ? 1 : 0, 1);
            due("drop again", kit.drop(f) ? 1 : 0, 0);
            due("result()", kit.result(), round);
        }
        Checks.due("calls", calls, 512);
    }

    private static void manyDefines() {
        Checks.about("What it is", "An object is used for at most 512 calls after it has been made");
        OutcomeKit kit = new OutcomeKit();
        calls = 0;
        int[] forty = Code.forty(Code.give(Code.var(0)));
        for (int round = 0; round < 12; round++) {
            for (int i = 0; i < 40; i++) {
                due("token", kit.token(forty[2 * i], forty[2 * i + 1]) ? 1 : 0, 1);
            }
            due("define", kit.define(round % 4), OutcomeKit.OK);
        }
        for (int f = 0; calls < 510; f = (f + 1) % 4) {
            due("run", kit.run(f, calls), OutcomeKit.OK);
            due("result()", kit.result(), calls - 1);
        }
    }

    private static void manyRuns() {
        Checks.about("What it is", "An object is used for at most 512 calls after it has been made");
        OutcomeKit kit = Checks.kitWith(Code.loop(0, Code.num(1), Code.say(1)));
        calls = 6;
        while (calls < 510) {
            due("run", kit.run(0, 0), OutcomeKit.LONG);
            due("says()", kit.says(), 299);
        }
    }
}
