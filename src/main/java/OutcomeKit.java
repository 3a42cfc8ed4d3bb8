/**
 * Small programs with exceptions and finally parts: they are written token by token, checked, and run.
 *
 * A run is a stack of entries, one for each token that is begun and not ended. Every turn looks at the
 * topmost entry: it either begins one of that entry's parts, or ends the entry. How the latest part ended
 * stands in ending, endNote and endValue, so that a finally part can put it aside and bring it back.
 */
public final class OutcomeKit {
    public static final int OK = 0, SHAPE = 1, UNBOUND = 2, THROWN = 3, LONG = 4, BAD = -1;

    private static final int NUM = 0, VAR = 1, ADD = 2, SUB = 3, MUL = 4, DIV = 5, LESS = 6, NOT = 7, CALL = 8;
    private static final int SET = 10, SAY = 11, IF = 12, WHILE = 13, SEQ = 14, SKIP = 15, THROW = 16;
    private static final int TRY = 17, CATCH = 18, BREAK = 19, CONTINUE = 20, RETURN = 21;

    private static final int FUNCTIONS = 4, VARIABLES = 6, LABELS = 4, THROW_KINDS = 4, ALL_KINDS = 4;
    private static final int MOST_TOKENS = 40, MOST_WORKING = 12, MOST_STEPS = 300, MOST_OUTPUTS = 40;

    /** The draft stands behind the bodies in the same arrays, so that one set of methods reads both. */
    private static final int DRAFT = FUNCTIONS * MOST_TOKENS;
    private static final int ALL_TOKENS = DRAFT + MOST_TOKENS;

    /** A token takes one expected part away and brings four at most. */
    private static final int MOST_EXPECTED = 1 + 3 * MOST_TOKENS;

    private static final int ALL_VARIABLES = MOST_WORKING * VARIABLES;

    /** Each function at work has each of its tokens begun once at most. */
    private static final int MOST_ENTRIES = MOST_WORKING * MOST_TOKENS;

    /** A step lets a body's tokens be begun once, with four turns each at most: some 50000 turns in all. */
    private static final int MOST_TURNS = 1000000;

    private static final int EXPRESSION = 1, STATEMENT = 2, CATCHES = 3;
    private static final int NORMAL = 0, BREAKS = 1, CONTINUES = 2, RETURNS = 3, THROWS = 4;
    private static final int BY_ZERO = 0, NO_BODY = 1, TOO_DEEP = 2;
    private static final int NONE = -1;

    private static final int AT_BEGIN = 0, AFTER_FIRST = 1, AFTER_SECOND = 2, AFTER_FINALLY = 3;

    private final int[] tokenKind = new int[ALL_TOKENS];
    private final int[] tokenValue = new int[ALL_TOKENS];
    /** How many tokens the part that begins here has: it holds wherever the part is copied to. */
    private final int[] tokenSize = new int[ALL_TOKENS];
    private final boolean[] hasBody = new boolean[FUNCTIONS];
    private final int[] expected = new int[MOST_EXPECTED];
    private int expectedCount;
    private int draftLength;
    private int latestPlace;

    private final int[] entryToken = new int[MOST_ENTRIES];
    private final int[] entryPhase = new int[MOST_ENTRIES];
    private final int[] keptEnding = new int[MOST_ENTRIES];
    private final int[] keptNote = new int[MOST_ENTRIES];
    private final int[] keptValue = new int[MOST_ENTRIES];
    private int entryCount;
    private final int[] variables = new int[ALL_VARIABLES];
    private int working;

    private int ending;
    /** The label of a BREAK or CONTINUE, the kind of an exception. */
    private int endNote;
    private int endValue;

    private final int[] output = new int[MOST_OUTPUTS];
    private int sayCount;
    private int stepCount;
    private boolean tooLong;
    private int latestResult;
    private int latestKind;

    public OutcomeKit() {
        latestPlace = NONE;
        latestKind = NONE;
    }

    public boolean token(int kind, int value) {
        if (draftLength >= MOST_TOKENS || !allows(kind, value)) {
            return false;
        }
        tokenKind[DRAFT + draftLength] = kind;
        tokenValue[DRAFT + draftLength] = value;
        draftLength++;
        return true;
    }

    public int define(int f) {
        if (!isFunction(f)) {
            return BAD;
        }
        int answer = judgeDraft();
        if (answer == OK) {
            copyDraft(f);
        }
        draftLength = 0;
        return answer;
    }

    public int place() {
        return latestPlace;
    }

    public boolean drop(int f) {
        if (!isFunction(f) || !hasBody[f]) {
            return false;
        }
        hasBody[f] = false;
        return true;
    }

    public int run(int f, int a) {
        if (!isFunction(f)) {
            return BAD;
        }
        clearRun();
        int body = beginFunction(f, a);
        if (body != NONE) {
            push(body);
        }
        for (int turn = 0; turn < MOST_TURNS && entryCount > 0 && !tooLong; turn++) {
            int part = nextPart();
            if (part == NONE) {
                entryCount--;
            } else {
                push(part);
            }
        }
        return closeRun();
    }

    public int result() {
        return latestResult;
    }

    public int kind() {
        return latestKind;
    }

    public int steps() {
        return stepCount;
    }

    public int says() {
        return sayCount;
    }

    public int said(int k) {
        if (k < 0 || k >= MOST_OUTPUTS || k >= sayCount) {
            return 0;
        }
        return output[k];
    }

    private boolean isFunction(int f) {
        return isBelow(f, FUNCTIONS);
    }

    private boolean isBelow(int value, int bound) {
        return value >= 0 && value < bound;
    }

    // ---- the draft

    private boolean allows(int kind, int value) {
        switch (kind) {
            case VAR:
            case SET:
                return isBelow(value, VARIABLES);
            case CALL:
                return isFunction(value);
            case WHILE:
            case BREAK:
            case CONTINUE:
                return isBelow(value, LABELS);
            case THROW:
                return isBelow(value, THROW_KINDS);
            case TRY:
                return value == 1 || value == 2 || value == 4 || value == 5 || value == 6;
            case CATCH:
                return isBelow(value, 8 * VARIABLES) && caughtKind(value) <= ALL_KINDS;
            default:
                return sortOf(kind) != NONE;
        }
    }

    private int caughtKind(int catchValue) {
        return catchValue & 7;
    }

    private int caughtVariable(int catchValue) {
        return catchValue >> 3;
    }

    private int sortOf(int kind) {
        if (kind == CATCH) {
            return CATCHES;
        }
        if (kind >= NUM && kind <= CALL) {
            return EXPRESSION;
        }
        if (kind >= SET && kind <= RETURN) {
            return STATEMENT;
        }
        return NONE;
    }

    private int expressionsIn(int kind) {
        switch (kind) {
            case ADD:
            case SUB:
            case MUL:
            case DIV:
            case LESS:
                return 2;
            case NOT:
            case CALL:
            case SET:
            case SAY:
            case IF:
            case WHILE:
            case THROW:
            case RETURN:
                return 1;
            default:
                return 0;
        }
    }

    /** The statements before any CATCH: a finally part is counted by finallyIn. */
    private int statementsIn(int kind) {
        switch (kind) {
            case IF:
            case SEQ:
                return 2;
            case WHILE:
            case TRY:
            case CATCH:
                return 1;
            default:
                return 0;
        }
    }

    private int catchesIn(int kind, int value) {
        return kind == TRY ? value & 3 : 0;
    }

    private int finallyIn(int kind, int value) {
        return kind == TRY ? value >> 2 : 0;
    }

    private int partsIn(int token) {
        int kind = tokenKind[token];
        int value = tokenValue[token];
        return expressionsIn(kind) + statementsIn(kind) + catchesIn(kind, value) + finallyIn(kind, value);
    }

    private int judgeDraft() {
        latestPlace = firstMisfit();
        if (latestPlace != NONE) {
            return SHAPE;
        }
        measureDraft();
        latestPlace = firstUnbound();
        return latestPlace == NONE ? OK : UNBOUND;
    }

    /** Where the draft stops being the beginning of a statement, its length if it is cut off, or NONE. */
    private int firstMisfit() {
        expectedCount = 0;
        expect(STATEMENT, 1);
        for (int i = 0; i < draftLength; i++) {
            int kind = tokenKind[DRAFT + i];
            if (expectedCount == 0 || expected[expectedCount - 1] != sortOf(kind)) {
                return i;
            }
            expectedCount--;
            expectParts(kind, tokenValue[DRAFT + i]);
        }
        return expectedCount == 0 ? NONE : draftLength;
    }

    /** The last part goes in first, because the stack gives the newest back. */
    private void expectParts(int kind, int value) {
        int finals = finallyIn(kind, value);
        int catches = catchesIn(kind, value);
        int statements = statementsIn(kind);
        int expressions = expressionsIn(kind);
        expect(STATEMENT, finals);
        expect(CATCHES, catches);
        expect(STATEMENT, statements);
        expect(EXPRESSION, expressions);
    }

    private void expect(int sort, int count) {
        for (int i = 0; i < count && expectedCount < MOST_EXPECTED; i++) {
            expected[expectedCount] = sort;
            expectedCount++;
        }
    }

    /** From the back, because a token's size is made of its parts' sizes. */
    private void measureDraft() {
        for (int i = draftLength - 1; i >= 0; i--) {
            int token = DRAFT + i;
            int parts = partsIn(token);
            tokenSize[token] = partAt(token, parts) - token;
        }
    }

    /** The token with which part n begins; for n the number of parts, the token behind the last. */
    private int partAt(int token, int n) {
        int at = token + 1;
        for (int i = 0; i < n && at < ALL_TOKENS; i++) {
            at += tokenSize[at];
        }
        return at;
    }

    private int firstUnbound() {
        for (int i = 0; i < draftLength; i++) {
            int kind = tokenKind[DRAFT + i];
            if ((kind == BREAK || kind == CONTINUE) && !isBound(i)) {
                return i;
            }
        }
        return NONE;
    }

    private boolean isBound(int jump) {
        int label = tokenValue[DRAFT + jump];
        for (int i = 0; i < jump; i++) {
            boolean around = i + tokenSize[DRAFT + i] > jump;
            if (around && tokenKind[DRAFT + i] == WHILE && tokenValue[DRAFT + i] == label) {
                return true;
            }
        }
        return false;
    }

    private void copyDraft(int f) {
        int body = f * MOST_TOKENS;
        for (int i = 0; i < draftLength; i++) {
            tokenKind[body + i] = tokenKind[DRAFT + i];
            tokenValue[body + i] = tokenValue[DRAFT + i];
            tokenSize[body + i] = tokenSize[DRAFT + i];
        }
        hasBody[f] = true;
    }

    // ---- a run

    private void clearRun() {
        entryCount = 0;
        working = 0;
        endBy(NORMAL, 0, 0);
        sayCount = 0;
        stepCount = 0;
        tooLong = false;
        latestResult = 0;
        latestKind = NONE;
    }

    private int closeRun() {
        if (tooLong) {
            return LONG;
        }
        if (ending == THROWS) {
            latestResult = endValue;
            latestKind = endNote;
            return THROWN;
        }
        latestResult = ending == RETURNS ? endValue : 0;
        return OK;
    }

    /** The first token of the body, or NONE if the function could not begin. */
    private int beginFunction(int f, int argument) {
        if (!hasBody[f]) {
            endBy(THROWS, NO_BODY, f);
            return NONE;
        }
        if (!takeStep()) {
            return NONE;
        }
        if (working >= MOST_WORKING) {
            endBy(THROWS, TOO_DEEP, f);
            return NONE;
        }
        working++;
        for (int v = 0; v < VARIABLES; v++) {
            setVariable(v, 0);
        }
        setVariable(0, argument);
        return f * MOST_TOKENS;
    }

    private boolean takeStep() {
        if (stepCount >= MOST_STEPS) {
            tooLong = true;
            return false;
        }
        stepCount++;
        return true;
    }

    private void setVariable(int v, int value) {
        variables[(working - 1) * VARIABLES + v] = value;
    }

    private int variable(int v) {
        return variables[(working - 1) * VARIABLES + v];
    }

    private void endBy(int how, int note, int value) {
        ending = how;
        endNote = note;
        endValue = value;
    }

    private void push(int token) {
        if (entryCount >= MOST_ENTRIES) {
            return;
        }
        entryToken[entryCount] = token;
        entryPhase[entryCount] = AT_BEGIN;
        entryCount++;
        // What a TRY caught or put aside must not look like the ending of the part that begins here.
        ending = NORMAL;
    }

    /** The token of the part of the topmost entry that is to begin now, or NONE if the entry has ended. */
    private int nextPart() {
        int entry = entryCount - 1;
        int token = entryToken[entry];
        int phase = entryPhase[entry];
        entryPhase[entry] = phase + 1;
        switch (tokenKind[token]) {
            case WHILE:
                return nextOfWhile(entry, phase);
            case TRY:
                return nextOfTry(entry, phase);
            case CALL:
                return nextOfCall(entry, phase);
            case IF:
                return nextOfIf(token, phase);
            default:
                return nextOfPlain(entry, phase);
        }
    }

    private int nextOfIf(int token, int phase) {
        if (phase == AT_BEGIN) {
            return token + 1;
        }
        if (phase == AFTER_SECOND || ending != NORMAL) {
            return NONE;
        }
        return partAt(token, endValue != 0 ? 1 : 2);
    }

    /** All of the parts one after the other, at most two, and then the work of the token itself. */
    private int nextOfPlain(int entry, int phase) {
        int token = entryToken[entry];
        if (ending != NORMAL) {
            return NONE;
        }
        if (phase < partsIn(token)) {
            keptValue[entry] = endValue;
            return partAt(token, phase);
        }
        if (sortOf(tokenKind[token]) == EXPRESSION) {
            finishExpression(token, keptValue[entry]);
        } else {
            finishStatement(token);
        }
        return NONE;
    }

    /** The last operand is in endValue; first is the other one, if there are two. */
    private void finishExpression(int token, int first) {
        switch (tokenKind[token]) {
            case NUM:
                endValue = tokenValue[token];
                break;
            case VAR:
                endValue = variable(tokenValue[token]);
                break;
            case ADD:
                endValue = first + endValue;
                break;
            case SUB:
                endValue = first - endValue;
                break;
            case MUL:
                endValue = first * endValue;
                break;
            case DIV:
                divide(first, endValue);
                break;
            case LESS:
                endValue = first < endValue ? 1 : 0;
                break;
            case NOT:
                endValue = endValue == 0 ? 1 : 0;
                break;
            default:
                break;
        }
    }

    private void divide(int dividend, int divisor) {
        if (divisor == 0) {
            endBy(THROWS, BY_ZERO, dividend);
        } else {
            endValue = dividend / divisor;
        }
    }

    private void finishStatement(int token) {
        int value = tokenValue[token];
        switch (tokenKind[token]) {
            case SET:
                setVariable(value, endValue);
                break;
            case SAY:
                say(endValue);
                break;
            case THROW:
                endBy(THROWS, value, endValue);
                break;
            case BREAK:
                endBy(BREAKS, value, 0);
                break;
            case CONTINUE:
                endBy(CONTINUES, value, 0);
                break;
            case RETURN:
                endBy(RETURNS, 0, endValue);
                break;
            default:
                break;
        }
    }

    private void say(int value) {
        if (sayCount < MOST_OUTPUTS) {
            output[sayCount] = value;
        }
        sayCount++;
    }

    private int nextOfCall(int entry, int phase) {
        int token = entryToken[entry];
        if (phase == AT_BEGIN) {
            return token + 1;
        }
        if (phase == AFTER_FIRST) {
            return ending == NORMAL ? beginFunction(tokenValue[token], endValue) : NONE;
        }
        working--;
        if (ending == NORMAL) {
            endValue = 0;
        } else if (ending == RETURNS) {
            ending = NORMAL;
        }
        return NONE;
    }

    private int nextOfWhile(int entry, int phase) {
        int token = entryToken[entry];
        if (phase == AFTER_FIRST) {
            return ending == NORMAL && endValue != 0 ? partAt(token, 1) : NONE;
        }
        if (phase == AFTER_SECOND && !goesOn(tokenValue[token])) {
            return NONE;
        }
        if (!takeStep()) {
            return NONE;
        }
        entryPhase[entry] = AFTER_FIRST;
        return token + 1;
    }

    /** Whether the loop with this label goes on after its statement; a BREAK to it ends here. */
    private boolean goesOn(int label) {
        if (ending == BREAKS && endNote == label) {
            ending = NORMAL;
            return false;
        }
        return ending == NORMAL || (ending == CONTINUES && endNote == label);
    }

    private int nextOfTry(int entry, int phase) {
        int token = entryToken[entry];
        if (phase == AT_BEGIN) {
            return token + 1;
        }
        if (phase == AFTER_FINALLY) {
            bringBackEnding(entry);
            return NONE;
        }
        if (phase == AFTER_FIRST && ending == THROWS) {
            int handler = catchFor(token);
            if (handler != NONE) {
                int v = caughtVariable(tokenValue[handler]);
                setVariable(v, endValue);
                return handler + 1;
            }
        }
        if (finallyIn(TRY, tokenValue[token]) == 0) {
            return NONE;
        }
        putEndingAside(entry);
        entryPhase[entry] = AFTER_FINALLY;
        int lastPart = partsIn(token) - 1;
        return partAt(token, lastPart);
    }

    /** The first CATCH of this TRY for the exception that is thrown, or NONE. */
    private int catchFor(int token) {
        int count = catchesIn(TRY, tokenValue[token]);
        for (int i = 1; i <= count; i++) {
            int handler = partAt(token, i);
            int caught = caughtKind(tokenValue[handler]);
            if (caught == endNote || caught == ALL_KINDS) {
                return handler;
            }
        }
        return NONE;
    }

    private void putEndingAside(int entry) {
        keptEnding[entry] = ending;
        keptNote[entry] = endNote;
        keptValue[entry] = endValue;
    }

    private void bringBackEnding(int entry) {
        if (ending == NORMAL) {
            endBy(keptEnding[entry], keptNote[entry], keptValue[entry]);
        }
    }
}
