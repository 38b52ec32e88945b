/** Procedures over six registers and a pile that can be run forwards and backwards. */
public final class BackAndForth {
    public static final int BAD_ARG = -1;
    public static final int FULL = -2;
    public static final int TOO_FEW = -3;
    public static final int NONE = -4;
    public static final int BAD_SELF = -5;
    public static final int DONE = 0;
    public static final int FAILED = 1;
    public static final int TIRED = 2;
    public static final int DEEP = 3;

    private static final int REGISTERS = 6;
    private static final int PILE_LIMIT = 12;
    private static final int PROCEDURES = 3;
    private static final int NUMBER_LIMIT = 100;
    private static final int EXPRESSION_LIMIT = 24;
    private static final int STATEMENT_LIMIT = 16;
    private static final int STEP_LIMIT = 300;
    private static final int CALL_LIMIT = 6;

    // One bank for each procedure and one for what is being put together.
    private static final int BANKS = PROCEDURES + 1;
    private static final int ALL_EXPRESSIONS = BANKS * EXPRESSION_LIMIT;
    private static final int ALL_STATEMENTS = BANKS * STATEMENT_LIMIT;

    // The procedure of the run and each open call hold at most one frame for each of their
    // statements, so that this can't be passed.
    private static final int FRAME_LIMIT = STATEMENT_LIMIT * (CALL_LIMIT + 1);

    // Every turn but a run's last one opens or closes a frame, and no more than 112 are opened from
    // one step to the next: 300 steps end far below this.
    private static final int TURN_LIMIT = 1_000_000;

    // The first seven kinds of expressions are the ops of apply.
    private static final int E_ADD = 0;
    private static final int E_SUB = 1;
    private static final int E_MUL = 2;
    private static final int E_XOR = 3;
    private static final int E_AND = 4;
    private static final int E_LESS = 5;
    private static final int E_SAME = 6;
    private static final int E_NUMBER = 7;
    private static final int E_REGISTER = 8;

    // The kinds of statements: the ops of simple, then those of update, then seq, then those of
    // tested. Skip is 0, so that the procedures of a new object are skip without being set.
    private static final int SKIP = 0;
    private static final int SWAP = 1;
    private static final int PUSH = 2;
    private static final int POP = 3;
    private static final int CALL = 4;
    private static final int BACK = 5;
    private static final int ADD = 6;
    private static final int SUB = 7;
    private static final int XOR = 8;
    private static final int CHECK = 9;
    private static final int SEQ = 10;
    private static final int IF = 11;
    private static final int LOOP = 12;

    // How far a frame's statement has come: which of its parts was run last. Entry and exit are X
    // and Y forwards, Y and X backwards.
    private static final int AT_START = 0;
    private static final int AFTER_A = 1;
    private static final int AFTER_B = 2;

    private final int[] registers = new int[REGISTERS];
    private final int[] pileNumbers = new int[PILE_LIMIT];
    private int pileHeight;

    private final int[] keptRegisters = new int[REGISTERS];
    private final int[] keptPile = new int[PILE_LIMIT];
    private int keptHeight;

    // An expression's parts stand below it in its bank; for a number or a register, X is that.
    private final int[] expressionKind = new int[ALL_EXPRESSIONS];
    private final int[] expressionX = new int[ALL_EXPRESSIONS];
    private final int[] expressionY = new int[ALL_EXPRESSIONS];
    private final int[] expressionRegisters = new int[ALL_EXPRESSIONS];
    private final int[] expressionValue = new int[ALL_EXPRESSIONS];
    private final int[] expressionStack = new int[EXPRESSION_LIMIT];
    private int expressionsStacked;
    private int expressionsMade;

    // A and B are statements, or the registers or the procedure of a statement without parts.
    private final int[] statementKind = new int[ALL_STATEMENTS];
    private final int[] statementA = new int[ALL_STATEMENTS];
    private final int[] statementB = new int[ALL_STATEMENTS];
    private final int[] statementX = new int[ALL_STATEMENTS];
    private final int[] statementY = new int[ALL_STATEMENTS];
    private final int[] statementStack = new int[STATEMENT_LIMIT];
    private int statementsStacked;
    private int statementsMade;

    private final int[] procedureBank = new int[PROCEDURES];
    private final int[] procedureStatement = new int[PROCEDURES];
    private int draftBank;

    private final int[] frameStatement = new int[FRAME_LIMIT];
    private final int[] frameStage = new int[FRAME_LIMIT];
    private final boolean[] frameBackwards = new boolean[FRAME_LIMIT];
    private int framesOpen;
    private int callsOpen;
    private int stepsMade;
    private int ending;
    private int lastOutcome;

    public BackAndForth() {
        for (int p = 0; p < PROCEDURES; p++) {
            procedureBank[p] = p;
            procedureStatement[p] = p * STATEMENT_LIMIT;
        }
        draftBank = PROCEDURES;
        lastOutcome = NONE;
    }

    public int number(int n) {
        if (n < -NUMBER_LIMIT || n > NUMBER_LIMIT) {
            return BAD_ARG;
        }
        if (expressionsMade >= EXPRESSION_LIMIT) {
            return FULL;
        }
        return makeExpression(E_NUMBER, n, 0, 0);
    }

    public int register(int r) {
        if (!isRegister(r)) {
            return BAD_ARG;
        }
        if (expressionsMade >= EXPRESSION_LIMIT) {
            return FULL;
        }
        return makeExpression(E_REGISTER, r, 0, 1 << r);
    }

    public int apply(int op) {
        if (op < E_ADD || op > E_SAME) {
            return BAD_ARG;
        }
        if (expressionsMade >= EXPRESSION_LIMIT) {
            return FULL;
        }
        if (expressionsStacked < 2) {
            return TOO_FEW;
        }
        int y = takeExpression();
        int x = takeExpression();
        return makeExpression(op, x, y, expressionRegisters[x] | expressionRegisters[y]);
    }

    public int simple(int op, int r, int n) {
        if (!isGoodSimple(op, r, n)) {
            return BAD_ARG;
        }
        if (statementsMade >= STATEMENT_LIMIT) {
            return FULL;
        }
        return makeStatement(op, r, n, 0, 0);
    }

    public int update(int op, int r) {
        if (!isGoodUpdate(op, r)) {
            return BAD_ARG;
        }
        if (statementsMade >= STATEMENT_LIMIT) {
            return FULL;
        }
        if (expressionsStacked < 1) {
            return TOO_FEW;
        }
        int kind = ADD + op;
        int top = expressionStack[expressionsStacked - 1];
        if (kind != CHECK && (expressionRegisters[top] >> r & 1) == 1) {
            return BAD_SELF;
        }
        int x = takeExpression();
        return makeStatement(kind, r, 0, x, 0);
    }

    public int seq() {
        if (statementsMade >= STATEMENT_LIMIT) {
            return FULL;
        }
        if (statementsStacked < 2) {
            return TOO_FEW;
        }
        int b = takeStatement();
        int a = takeStatement();
        return makeStatement(SEQ, a, b, 0, 0);
    }

    public int tested(int op) {
        if (op != 0 && op != 1) {
            return BAD_ARG;
        }
        if (statementsMade >= STATEMENT_LIMIT) {
            return FULL;
        }
        if (statementsStacked < 2 || expressionsStacked < 2) {
            return TOO_FEW;
        }
        int b = takeStatement();
        int a = takeStatement();
        int y = takeExpression();
        int x = takeExpression();
        return makeStatement(IF + op, a, b, x, y);
    }

    public int discard() {
        int there = statementsStacked;
        emptyStacks();
        return there;
    }

    public int procedure(int p) {
        if (!isProcedure(p)) {
            return BAD_ARG;
        }
        if (statementsStacked != 1 || expressionsStacked != 0) {
            return TOO_FEW;
        }
        int made = statementsMade;
        procedureStatement[p] = statementStack[0];
        // The bank of what procedure p was is free now: the next statements are put together there.
        int freed = procedureBank[p];
        procedureBank[p] = draftBank;
        draftBank = freed;
        emptyStacks();
        return made;
    }

    public int load(int r, int v) {
        if (!isRegister(r)) {
            return BAD_ARG;
        }
        registers[r] = v;
        return 0;
    }

    public int run(int p, int backwards) {
        if (!isProcedure(p)) {
            return BAD_ARG;
        }
        keepState();
        framesOpen = 0;
        callsOpen = 0;
        stepsMade = 0;
        ending = DONE;
        open(procedureStatement[p], backwards != 0);
        for (int turn = 0; turn < TURN_LIMIT && framesOpen > 0 && ending == DONE; turn++) {
            advance(framesOpen - 1);
        }
        if (ending != DONE) {
            restoreState();
        }
        lastOutcome = ending;
        return ending;
    }

    public int outcome() {
        return lastOutcome;
    }

    public int look(int r) {
        return isRegister(r) ? registers[r] : 0;
    }

    public int pile() {
        return pileHeight;
    }

    public int onPile(int i) {
        return i >= 0 && i < pileHeight ? pileNumbers[pileHeight - 1 - i] : 0;
    }

    public int steps() {
        return stepsMade;
    }

    private static boolean isRegister(int r) {
        return r >= 0 && r < REGISTERS;
    }

    private static boolean isProcedure(int p) {
        return p >= 0 && p < PROCEDURES;
    }

    private static boolean isGoodSimple(int op, int r, int n) {
        switch (op) {
            case SKIP:
                return true;
            case SWAP:
                return isRegister(r) && isRegister(n);
            case PUSH:
            case POP:
                return isRegister(r);
            case CALL:
            case BACK:
                return isProcedure(n);
            default:
                return false;
        }
    }

    private static boolean isGoodUpdate(int op, int r) {
        return op == CHECK - ADD || op >= 0 && op < CHECK - ADD && isRegister(r);
    }

    private int makeExpression(int kind, int x, int y, int registersIn) {
        int e = draftBank * EXPRESSION_LIMIT + expressionsMade;
        expressionKind[e] = kind;
        expressionX[e] = x;
        expressionY[e] = y;
        expressionRegisters[e] = registersIn;
        expressionsMade++;
        expressionStack[expressionsStacked] = e;
        expressionsStacked++;
        return expressionsStacked;
    }

    private int takeExpression() {
        expressionsStacked--;
        return expressionStack[expressionsStacked];
    }

    private int makeStatement(int kind, int a, int b, int x, int y) {
        int s = draftBank * STATEMENT_LIMIT + statementsMade;
        statementKind[s] = kind;
        statementA[s] = a;
        statementB[s] = b;
        statementX[s] = x;
        statementY[s] = y;
        statementsMade++;
        statementStack[statementsStacked] = s;
        statementsStacked++;
        return statementsStacked;
    }

    private int takeStatement() {
        statementsStacked--;
        return statementStack[statementsStacked];
    }

    private void emptyStacks() {
        expressionsStacked = 0;
        expressionsMade = 0;
        statementsStacked = 0;
        statementsMade = 0;
    }

    private void keepState() {
        for (int r = 0; r < REGISTERS; r++) {
            keptRegisters[r] = registers[r];
        }
        for (int i = 0; i < PILE_LIMIT; i++) {
            keptPile[i] = pileNumbers[i];
        }
        keptHeight = pileHeight;
    }

    private void restoreState() {
        for (int r = 0; r < REGISTERS; r++) {
            registers[r] = keptRegisters[r];
        }
        for (int i = 0; i < PILE_LIMIT; i++) {
            pileNumbers[i] = keptPile[i];
        }
        pileHeight = keptHeight;
    }

    private void open(int statement, boolean backwards) {
        frameStatement[framesOpen] = statement;
        frameStage[framesOpen] = AT_START;
        frameBackwards[framesOpen] = backwards;
        framesOpen++;
    }

    private void close() {
        framesOpen--;
    }

    private void advance(int frame) {
        int kind = statementKind[frameStatement[frame]];
        if (kind == SEQ) {
            advanceSeq(frame);
        } else if (kind == IF) {
            advanceIf(frame);
        } else if (kind == LOOP) {
            advanceLoop(frame);
        } else if (kind == CALL || kind == BACK) {
            advanceCall(frame);
        } else {
            close();
            if (makeStep()) {
                change(frameStatement[frame], frameBackwards[frame]);
            }
        }
    }

    private void advanceSeq(int frame) {
        int stage = frameStage[frame];
        boolean backwards = frameBackwards[frame];
        if (stage == (backwards ? AFTER_A : AFTER_B)) {
            close();
        } else if (stage == (backwards ? AFTER_B : AT_START)) {
            openA(frame);
        } else {
            openB(frame);
        }
    }

    private void advanceIf(int frame) {
        int stage = frameStage[frame];
        if (stage == AT_START) {
            if (isEntryTrue(frame)) {
                openA(frame);
            } else {
                openB(frame);
            }
        } else if (isExitTrue(frame) == (stage == AFTER_A)) {
            close();
        } else {
            ending = FAILED;
        }
    }

    private void advanceLoop(int frame) {
        int stage = frameStage[frame];
        if (stage == AFTER_A) {
            if (isExitTrue(frame)) {
                close();
            } else {
                openB(frame);
            }
        } else if (isEntryTrue(frame) == (stage == AT_START)) {
            openA(frame);
        } else {
            ending = FAILED;
        }
    }

    private void advanceCall(int frame) {
        if (frameStage[frame] != AT_START) {
            callsOpen--;
            close();
        } else if (makeStep()) {
            if (callsOpen >= CALL_LIMIT) {
                ending = DEEP;
            } else {
                openCalled(frame);
            }
        }
    }

    private void openCalled(int frame) {
        int statement = frameStatement[frame];
        boolean turned = statementKind[statement] == BACK;
        callsOpen++;
        frameStage[frame] = AFTER_A;
        open(procedureStatement[statementB[statement]], frameBackwards[frame] != turned);
    }

    private void openA(int frame) {
        frameStage[frame] = AFTER_A;
        open(statementA[frameStatement[frame]], frameBackwards[frame]);
    }

    private void openB(int frame) {
        frameStage[frame] = AFTER_B;
        open(statementB[frameStatement[frame]], frameBackwards[frame]);
    }

    private boolean isEntryTrue(int frame) {
        int statement = frameStatement[frame];
        return valueOf(frameBackwards[frame] ? statementY[statement] : statementX[statement]) != 0;
    }

    private boolean isExitTrue(int frame) {
        int statement = frameStatement[frame];
        return valueOf(frameBackwards[frame] ? statementX[statement] : statementY[statement]) != 0;
    }

    private boolean makeStep() {
        if (stepsMade >= STEP_LIMIT) {
            ending = TIRED;
            return false;
        }
        stepsMade++;
        return true;
    }

    private void change(int statement, boolean backwards) {
        int kind = statementKind[statement];
        int r = statementA[statement];
        if (kind == SWAP) {
            exchange(r, statementB[statement]);
        } else if (kind == PUSH || kind == POP) {
            if ((kind == PUSH) != backwards) {
                putOnPile(r);
            } else {
                takeFromPile(r);
            }
        } else if (kind != SKIP) {
            int value = valueOf(statementX[statement]);
            changeByValue(kind, r, value, backwards);
        }
    }

    private void exchange(int r, int s) {
        int number = registers[r];
        registers[r] = registers[s];
        registers[s] = number;
    }

    private void putOnPile(int r) {
        if (pileHeight >= PILE_LIMIT) {
            ending = FAILED;
            return;
        }
        pileNumbers[pileHeight] = registers[r];
        pileHeight++;
        registers[r] = 0;
    }

    private void takeFromPile(int r) {
        if (pileHeight <= 0 || registers[r] != 0) {
            ending = FAILED;
            return;
        }
        pileHeight--;
        registers[r] = pileNumbers[pileHeight];
    }

    private void changeByValue(int kind, int r, int value, boolean backwards) {
        if (kind == CHECK) {
            if (value == 0) {
                ending = FAILED;
            }
        } else if (kind == XOR) {
            registers[r] ^= value;
        } else if ((kind == SUB) == backwards) {
            registers[r] += value;
        } else {
            registers[r] -= value;
        }
    }

    // All expressions of the bank up to this one are worked out, in the order in which they were
    // made: parts come before wholes, so that no stack is needed.
    private int valueOf(int expression) {
        int first = expression - expression % EXPRESSION_LIMIT;
        for (int e = first; e <= expression; e++) {
            int x = expressionX[e];
            if (expressionKind[e] == E_NUMBER) {
                expressionValue[e] = x;
            } else if (expressionKind[e] == E_REGISTER) {
                expressionValue[e] = registers[x];
            } else {
                int y = expressionY[e];
                expressionValue[e] = combined(expressionKind[e], expressionValue[x], expressionValue[y]);
            }
        }
        return expressionValue[expression];
    }

    private static int combined(int op, int x, int y) {
        switch (op) {
            case E_ADD:
                return x + y;
            case E_SUB:
                return x - y;
            case E_MUL:
                return x * y;
            case E_XOR:
                return x ^ y;
            case E_AND:
                return x & y;
            case E_LESS:
                return x < y ? 1 : 0;
            default:
                return x == y ? 1 : 0;
        }
    }
}
