import java.util.ArrayList;
import java.util.List;

/** A second reading of the document, recursive and with Java's own exceptions, to compare answers with. */
final class Reference {
    /** How a statement ends if not normally: how is one of "break", "continue", "return", "throw". */
    private static final class Jump extends RuntimeException {
        private static final long serialVersionUID = 1L;
        final String how;
        final int note;
        final int value;

        Jump(String how, int note, int value) {
            super(how, null, false, false);
            this.how = how;
            this.note = note;
            this.value = value;
        }
    }

    /** LONG: nothing may catch it, no finally part is done. */
    private static final class Over extends RuntimeException {
        private static final long serialVersionUID = 1L;

        Over() {
            super("over", null, false, false);
        }
    }

    /** A draft that is no statement, and where. */
    private static final class Misfit extends RuntimeException {
        private static final long serialVersionUID = 1L;
        final int at;

        Misfit(int at) {
            super("misfit", null, false, false);
            this.at = at;
        }
    }

    /** One function at work: its body, how far it is read, and its variables. */
    private final class Work {
        final int[] code;
        final int[] variables = new int[6];

        Work(int[] code, int argument) {
            this.code = code;
            variables[0] = argument;
        }

        int expression(int at) {
            int value = code[at + 1];
            int kind = code[at];
            if (kind == 0) {
                return value;
            }
            if (kind == 1) {
                return variables[value];
            }
            int first = expression(at + 2);
            if (kind == 7) {
                return first == 0 ? 1 : 0;
            }
            if (kind == 8) {
                return call(value, first);
            }
            int second = expression(after(code, at + 2));
            switch (kind) {
                case 2: return first + second;
                case 3: return first - second;
                case 4: return first * second;
                case 6: return first < second ? 1 : 0;
                default: break;
            }
            if (second == 0) {
                throw new Jump("throw", 0, first);
            }
            return (int) ((long) first / second);
        }

        void statement(int at) {
            int value = code[at + 1];
            switch (code[at]) {
                case 10: variables[value] = expression(at + 2); break;
                case 11: output.add(expression(at + 2)); break;
                case 12:
                    int yes = after(code, at + 2);
                    statement(expression(at + 2) != 0 ? yes : after(code, yes));
                    break;
                case 13: loop(at, value); break;
                case 14: statement(at + 2); statement(after(code, at + 2)); break;
                case 15: break;
                case 16: throw new Jump("throw", value, expression(at + 2));
                case 17: attempt(at, value); break;
                case 19: throw new Jump("break", value, 0);
                case 20: throw new Jump("continue", value, 0);
                default: throw new Jump("return", 0, expression(at + 2));
            }
        }

        private void loop(int at, int label) {
            while (true) {
                step();
                if (expression(at + 2) == 0) {
                    return;
                }
                try {
                    statement(after(code, at + 2));
                } catch (Jump jump) {
                    if (jump.note != label || !(jump.how.equals("break") || jump.how.equals("continue"))) {
                        throw jump;
                    }
                    if (jump.how.equals("break")) {
                        return;
                    }
                }
            }
        }

        private void attempt(int at, int t) {
            Jump rest = ending(at + 2);
            int part = after(code, at + 2);
            boolean open = rest != null && rest.how.equals("throw");
            for (int i = 0; i < t % 4; i++) {
                int k = code[part + 1] % 8;
                if (open && (k == 4 || k == rest.note)) {
                    variables[code[part + 1] / 8] = rest.value;
                    rest = ending(part + 2);
                    open = false;
                }
                part = after(code, part);
            }
            if (t >= 4) {
                statement(part);
            }
            if (rest != null) {
                throw rest;
            }
        }

        private Jump ending(int at) {
            try {
                statement(at);
                return null;
            } catch (Jump jump) {
                return jump;
            }
        }
    }

    private final int[][] bodies = new int[4][];
    private final List<Integer> draft = new ArrayList<>();
    final List<Integer> output = new ArrayList<>();
    int place = -1;
    int result = 0;
    int kind = -1;
    int steps = 0;
    private int working = 0;

    void token(int kind, int value) {
        draft.add(kind);
        draft.add(value);
    }

    int define(int f) {
        int[] code = draft.stream().mapToInt(Integer::intValue).toArray();
        draft.clear();
        try {
            int end = parse(code, 0, "S");
            if (end < code.length) {
                throw new Misfit(end / 2);
            }
        } catch (Misfit misfit) {
            place = misfit.at;
            return OutcomeKit.SHAPE;
        }
        place = unbound(code, 0, new int[4]);
        if (place >= 0) {
            return OutcomeKit.UNBOUND;
        }
        bodies[f] = code;
        return OutcomeKit.OK;
    }

    boolean drop(int f) {
        boolean had = bodies[f] != null;
        bodies[f] = null;
        return had;
    }

    int run(int f, int a) {
        output.clear();
        steps = 0;
        working = 0;
        result = 0;
        kind = -1;
        try {
            result = call(f, a);
            return OutcomeKit.OK;
        } catch (Jump jump) {
            result = jump.value;
            kind = jump.note;
            return OutcomeKit.THROWN;
        } catch (Over over) {
            return OutcomeKit.LONG;
        }
    }

    private void step() {
        if (steps == 300) {
            throw new Over();
        }
        steps++;
    }

    private int call(int f, int argument) {
        if (bodies[f] == null) {
            throw new Jump("throw", 1, f);
        }
        step();
        if (working == 12) {
            throw new Jump("throw", 2, f);
        }
        working++;
        try {
            new Work(bodies[f], argument).statement(0);
            return 0;
        } catch (Jump jump) {
            if (jump.how.equals("return")) {
                return jump.value;
            }
            throw jump;
        } finally {
            working--;
        }
    }

    /** The parts of a token, as a word over E, S and C. */
    private static String parts(int kind, int value) {
        switch (kind) {
            case 2: case 3: case 4: case 5: case 6: return "EE";
            case 7: case 8: case 10: case 11: case 16: case 21: return "E";
            case 12: return "ESS";
            case 13: return "ES";
            case 14: return "SS";
            case 17: return "S" + "CC".substring(0, value % 4) + (value >= 4 ? "S" : "");
            case 18: return "S";
            default: return "";
        }
    }

    private static int parse(int[] code, int at, String sort) {
        if (at >= code.length) {
            throw new Misfit(code.length / 2);
        }
        String found = code[at] <= 8 ? "E" : code[at] == 18 ? "C" : "S";
        if (!found.equals(sort)) {
            throw new Misfit(at / 2);
        }
        int next = at + 2;
        for (char part : parts(code[at], code[at + 1]).toCharArray()) {
            next = parse(code, next, String.valueOf(part));
        }
        return next;
    }

    private static int after(int[] code, int at) {
        int next = at + 2;
        for (int i = parts(code[at], code[at + 1]).length(); i > 0; i--) {
            next = after(code, next);
        }
        return next;
    }

    /** The first BREAK or CONTINUE below this token without a WHILE; around counts the WHILEs of each label. */
    private static int unbound(int[] code, int at, int[] around) {
        int kind = code[at];
        int value = code[at + 1];
        if (kind == 19 || kind == 20) {
            return around[value] == 0 ? at / 2 : -1;
        }
        if (kind == 13) {
            around[value]++;
        }
        int found = -1;
        int next = at + 2;
        for (int i = parts(kind, value).length(); i > 0 && found < 0; i--) {
            found = unbound(code, next, around);
            next = after(code, next);
        }
        if (kind == 13) {
            around[value]--;
        }
        return found;
    }
}
