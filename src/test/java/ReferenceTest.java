import java.util.Random;

/** Made-up programs, the same ones each time, on the kit and on the plain recursive Reference. */
public final class ReferenceTest {
    private static final int OBJECTS = 60000;
    private static final int[] NUMBERS = {0, 1, 1, 2, 3, -1, 5, 7, Integer.MIN_VALUE, Integer.MAX_VALUE, 100, -13};
    private static final int[] TRIES = {1, 2, 4, 5, 6};
    /** Few enough that an object stays below its 512 calls. */
    private static final int[] OUTPUTS = {0, 1, 2, 3, 4, 5, 6, 7, 39, 40};

    private static Random random;
    private static int[] code;
    private static int length;
    private static final int[] seen = new int[5];
    private static final int[] defined = new int[3];

    public static void main(String[] args) {
        for (int i = 0; i < OBJECTS; i++) {
            random = new Random(1000003L * i + 17);
            compareObject(i);
        }
        for (int answer = 0; answer < 5; answer++) {
            boolean runs = answer == OutcomeKit.OK || answer >= OutcomeKit.THROWN;
            Checks.due("enough runs with answer " + answer, seen[answer] > 1000, runs);
        }
        for (int answer = 0; answer < 3; answer++) {
            Checks.due("enough defines with answer " + answer, defined[answer] > 1000, true);
        }
        System.out.println("runs: " + seen[OutcomeKit.OK] + " OK, " + seen[OutcomeKit.THROWN] + " THROWN, "
            + seen[OutcomeKit.LONG] + " LONG; defines: " + defined[OutcomeKit.OK] + " OK, "
            + defined[OutcomeKit.SHAPE] + " SHAPE, " + defined[OutcomeKit.UNBOUND] + " UNBOUND");
        Checks.end("ReferenceTest");
    }

    private static void compareObject(int i) {
        OutcomeKit kit = new OutcomeKit();
        Reference reference = new Reference();
        int functions = 1 + random.nextInt(4);
        for (int round = 0; round < 2; round++) {
            for (int f = 0; f < functions; f++) {
                compareDefine("object " + i, kit, reference, f);
            }
            for (int k = 0; k < 3; k++) {
                compareRun("object " + i, kit, reference, random.nextInt(functions));
            }
            int f = random.nextInt(4);
            Checks.due("object " + i + ": drop(" + f + ")", kit.drop(f), reference.drop(f));
            compareRun("object " + i, kit, reference, random.nextInt(functions));
        }
    }

    private static void compareDefine(String what, OutcomeKit kit, Reference reference, int f) {
        writeProgram();
        for (int i = 0; i < length; i++) {
            reference.token(code[2 * i], code[2 * i + 1]);
            Checks.due(what + ": token", kit.token(code[2 * i], code[2 * i + 1]), true);
        }
        int want = reference.define(f);
        defined[want]++;
        Checks.due(what + ": define(" + f + ")", kit.define(f), want);
        Checks.due(what + ": place()", kit.place(), reference.place);
    }

    private static void compareRun(String what, OutcomeKit kit, Reference reference, int f) {
        int a = number();
        int want = reference.run(f, a);
        seen[want]++;
        Checks.due(what + ": run(" + f + ", " + a + ")", kit.run(f, a), want);
        Checks.due(what + ": result()", kit.result(), reference.result);
        Checks.due(what + ": kind()", kit.kind(), reference.kind);
        Checks.due(what + ": steps()", kit.steps(), reference.steps);
        Checks.due(what + ": says()", kit.says(), reference.output.size());
        for (int k : OUTPUTS) {
            boolean there = k < 40 && k < reference.output.size();
            Checks.due(what + ": said(" + k + ")", kit.said(k), there ? reference.output.get(k) : 0);
        }
    }

    /** Mostly a whole statement; now and then one with a token changed, cut off or added. */
    private static void writeProgram() {
        do {
            code = new int[2000];
            length = 0;
            statement(2 + random.nextInt(5), 0);
        } while (length > 40 || length < random.nextInt(12));
        int change = random.nextInt(12);
        if (change == 0) {
            length = random.nextInt(length + 1);
        } else if (change == 1) {
            randomToken(random.nextInt(length));
        } else if (change == 2 && length < 40) {
            randomToken(length);
            length++;
        }
    }

    private static void randomToken(int at) {
        int kept = length;
        length = at;
        int kind = random.nextInt(22);
        if (kind == 17) {
            put(17, TRIES[random.nextInt(5)]);
        } else if (kind == 18) {
            put(18, 8 * random.nextInt(6) + random.nextInt(5));
        } else {
            put(kind == 9 ? 15 : kind, random.nextInt(4));
        }
        length = kept;
    }

    private static void put(int kind, int value) {
        if (length < 900) {
            code[2 * length] = kind;
            code[2 * length + 1] = value;
            length++;
        }
    }

    private static int number() {
        return NUMBERS[random.nextInt(NUMBERS.length)];
    }

    private static void expression(int depth) {
        int choice = depth <= 0 ? random.nextInt(4) : random.nextInt(14);
        if (choice < 2) {
            put(0, number());
        } else if (choice < 5) {
            put(1, random.nextInt(3) == 0 ? random.nextInt(6) : 0);
        } else if (choice < 10) {
            put(choice - 3, 0);
            expression(depth - 1);
            expression(depth - 1);
        } else if (choice == 10) {
            put(7, 0);
            expression(depth - 1);
        } else {
            put(8, random.nextInt(4));
            expression(depth - 1);
        }
    }

    /** labels is the set of labels around; now and then a jump takes another one. */
    private static void statement(int depth, int labels) {
        int choice = depth <= 0 ? random.nextInt(7) : random.nextInt(20);
        switch (choice) {
            case 0: put(15, 0); break;
            case 1: put(11, 0); expression(1); break;
            case 2: put(10, random.nextInt(3)); expression(2); break;
            case 3: put(16, random.nextInt(4)); expression(1); break;
            case 4: put(21, 0); expression(2); break;
            case 5: case 6: jump(labels); break;
            case 7: case 8: put(12, 0); expression(2); statement(depth - 1, labels); statement(depth - 1, labels); break;
            case 9: case 10: case 11:
                int label = random.nextInt(4);
                put(13, label);
                expression(2);
                statement(depth - 1, labels | 1 << label);
                break;
            case 12: case 13: case 14: put(14, 0); statement(depth - 1, labels); statement(depth - 1, labels); break;
            default: attempt(depth, labels); break;
        }
    }

    private static void jump(int labels) {
        int label = random.nextInt(4);
        boolean bound = (labels >> label & 1) == 1;
        if (bound || random.nextInt(40) == 0) {
            put(19 + random.nextInt(2), label);
        } else {
            put(11, 0);
            put(1, random.nextInt(6));
        }
    }

    private static void attempt(int depth, int labels) {
        int t = TRIES[random.nextInt(5)];
        put(17, t);
        statement(depth - 1, labels);
        for (int i = 0; i < t % 4; i++) {
            put(18, 8 * random.nextInt(6) + random.nextInt(5));
            statement(depth - 2, labels);
        }
        if (t >= 4) {
            statement(depth - 2, labels);
        }
    }
}
