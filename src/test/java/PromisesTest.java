/** What the document promises, one method or more for each promise, with the edges it names. */
public final class PromisesTest {
    private static final int ADD = 0;
    private static final int SUB = 1;
    private static final int MUL = 2;
    private static final int XOR = 3;
    private static final int AND = 4;
    private static final int LESS = 5;
    private static final int SAME = 6;

    private static final int SKIP = 0;
    private static final int SWAP = 1;
    private static final int PUSH = 2;
    private static final int POP = 3;
    private static final int CALL = 4;
    private static final int BACK = 5;

    private static final int UPDATE_ADD = 0;
    private static final int UPDATE_SUB = 1;
    private static final int UPDATE_XOR = 2;
    private static final int CHECK = 3;

    private static final int IF = 0;
    private static final int LOOP = 1;

    private static final int FORWARDS = 0;
    private static final int BACKWARDS = 1;

    private static final int[] FAR = {Integer.MIN_VALUE, Integer.MAX_VALUE, 1 << 30, -(1 << 30)};

    private static int wrong = 0;

    private static void due(String what, int got, int want) {
        if (got != want) {
            wrong++;
            System.out.println(what + " answered " + got + ", due is " + want);
        }
    }

    public static void main(String[] args) {
        newObject();
        numbers();
        registers();
        applying();
        expressionsFull();
        expressionsFullOutlastsTaking();
        everyOperation();
        simples();
        simplesRun();
        pushAndPop();
        pileEdges();
        callsAndBacks();
        updates();
        updatesRun();
        selfUse();
        seqs();
        testeds();
        ifs();
        loops();
        discards();
        procedures();
        loads();
        runs();
        endings();
        tiredEdges();
        deepEdges();
        looksAndPile();
        orderAndLimits();
        refusedChangesNothing();
        System.out.println(wrong == 0 ? "all answers are as due" : wrong + " answers are not as due");
        if (wrong != 0) {
            System.exit(1);
        }
    }

    // ---- helpers

    private static void dueState(String what, Trial x, int outcome, int steps, int... registers) {
        due(what + ": outcome", x.outcome(), outcome);
        due(what + ": steps", x.steps(), steps);
        for (int r = 0; r < 6; r++) {
            due(what + ": look(" + r + ")", x.look(r), r < registers.length ? registers[r] : 0);
        }
    }

    private static void duePile(String what, Trial x, int... fromTop) {
        due(what + ": pile", x.pile(), fromTop.length);
        for (int i = 0; i < fromTop.length; i++) {
            due(what + ": onPile(" + i + ")", x.onPile(i), fromTop[i]);
        }
        due(what + ": onPile beyond", x.onPile(fromTop.length), 0);
    }

    private static void fillExpressions(Trial x) {
        for (int i = 1; i <= 24; i++) {
            due("number " + i + " of 24", x.number(i), i);
        }
    }

    private static void fillStatements(Trial x) {
        for (int i = 1; i <= 16; i++) {
            due("skip " + i + " of 16", x.simple(SKIP, 0, 0), i);
        }
    }

    /** Procedure p becomes: op r by the number n. */
    private static void updateProcedure(Trial x, int p, int op, int r, int n) {
        x.number(n);
        x.update(op, r);
        due("procedure of one update", x.procedure(p), 1);
    }

    private static void simpleProcedure(Trial x, int p, int op, int r, int n) {
        x.simple(op, r, n);
        due("procedure of one simple", x.procedure(p), 1);
    }

    /** Procedure p becomes a loop of skips that is left when register 0, counted up, is `times`. */
    private static void countingLoop(Trial x, int p, int times) {
        x.register(0);
        x.number(0);
        x.apply(SAME);
        x.register(0);
        x.register(1);
        x.apply(SAME);
        x.simple(SKIP, 0, 0);
        x.number(1);
        x.update(UPDATE_ADD, 0);
        x.tested(LOOP);
        due("counting loop", x.procedure(p), 3);
        x.load(0, 0);
        x.load(1, times);
    }

    // ---- promise 1

    private static void newObject() {
        Trial x = new Trial();
        dueState("new", x, BackAndForth.NONE, 0);
        duePile("new", x);
        due("new: discard", x.discard(), 0);
        due("new: procedure", x.procedure(0), BackAndForth.TOO_FEW);
        due("new: apply", x.apply(ADD), BackAndForth.TOO_FEW);
        for (int p = 0; p < 3; p++) {
            for (int b = 0; b < 2; b++) {
                x = new Trial();
                x.load(3, 9);
                due("new: run(" + p + ", " + b + ")", x.run(p, b), BackAndForth.DONE);
                dueState("new: after run", x, BackAndForth.DONE, 1, 0, 0, 0, 9);
                duePile("new: after run", x);
            }
        }
        // Each procedure is a skip of its own: making one anew leaves the others so.
        x = new Trial();
        for (int i = 0; i < 4; i++) {
            updateProcedure(x, 0, UPDATE_ADD, 5, 7);
        }
        due("new: run(1, 0)", x.run(1, FORWARDS), BackAndForth.DONE);
        due("new: run(2, 0)", x.run(2, FORWARDS), BackAndForth.DONE);
        dueState("new: still skip", x, BackAndForth.DONE, 1);
    }

    // ---- promises 2 to 4

    private static void numbers() {
        Trial x = new Trial();
        due("number(-101)", x.number(-101), BackAndForth.BAD_ARG);
        due("number(101)", x.number(101), BackAndForth.BAD_ARG);
        for (int far : FAR) {
            due("number(" + far + ")", x.number(far), BackAndForth.BAD_ARG);
        }
        due("number(-100)", x.number(-100), 1);
        due("number(100)", x.number(100), 2);
        due("sub of them", x.apply(SUB), 1);
        due("number(0)", x.number(0), 2);
        due("add of them", x.apply(ADD), 1);
        x.update(UPDATE_ADD, 0);
        x.procedure(0);
        x.run(0, FORWARDS);
        due("-100 - 100 + 0", x.look(0), -200);
    }

    private static void registers() {
        Trial x = new Trial();
        due("register(-1)", x.register(-1), BackAndForth.BAD_ARG);
        due("register(6)", x.register(6), BackAndForth.BAD_ARG);
        for (int far : FAR) {
            due("register(" + far + ")", x.register(far), BackAndForth.BAD_ARG);
        }
        for (int r = 0; r < 6; r++) {
            int other = (r + 1) % 6;
            due("register(" + r + ")", x.register(r), 1);
            due("update of it", x.update(UPDATE_ADD, other), 1);
            due("procedure of it", x.procedure(0), 1);
            x.load(r, 1000 + r);
            x.load(other, 1);
            x.run(0, FORWARDS);
            due("register " + r + " was read", x.look(other), 1001 + r);
        }
    }

    private static void applying() {
        Trial x = new Trial();
        due("apply of none", x.apply(ADD), BackAndForth.TOO_FEW);
        x.number(1);
        due("apply of one", x.apply(ADD), BackAndForth.TOO_FEW);
        due("apply(-1) of one", x.apply(-1), BackAndForth.BAD_ARG);
        x.number(1);
        due("apply(-1)", x.apply(-1), BackAndForth.BAD_ARG);
        due("apply(7)", x.apply(7), BackAndForth.BAD_ARG);
        for (int far : FAR) {
            due("apply(" + far + ")", x.apply(far), BackAndForth.BAD_ARG);
        }
        x.number(1);
        due("apply of three", x.apply(SAME), 2);
        due("apply of two", x.apply(SAME), 1);
        due("apply of what is left", x.apply(SAME), BackAndForth.TOO_FEW);
    }

    private static void expressionsFull() {
        Trial x = new Trial();
        fillExpressions(x);
        due("number, full", x.number(0), BackAndForth.FULL);
        due("register, full", x.register(0), BackAndForth.FULL);
        due("apply, full", x.apply(ADD), BackAndForth.FULL);
        due("number(101), full", x.number(101), BackAndForth.BAD_ARG);
        due("register(6), full", x.register(6), BackAndForth.BAD_ARG);
        due("apply(7), full", x.apply(7), BackAndForth.BAD_ARG);
        due("update when expressions are full", x.update(CHECK, 0), 1);
        due("discard", x.discard(), 1);
        fillExpressions(x);
        due("number, full again", x.number(0), BackAndForth.FULL);
    }

    private static void expressionsFullOutlastsTaking() {
        Trial x = new Trial();
        for (int i = 0; i < 12; i++) {
            due("number", x.number(1), 1);
            due("check", x.update(CHECK, 0), i == 0 ? 1 : 2);
            if (i > 0 && i < 8) {
                due("seq", x.seq(), 1);
            } else if (i >= 8) {
                break;
            }
        }
        // 9 expressions and 16 statements were made; both stacks' expressions are all taken.
        for (int i = 1; i <= 15; i++) {
            due("number " + i, x.number(0), i);
        }
        due("the 25th", x.number(0), BackAndForth.FULL);
        due("the 25th, register", x.register(0), BackAndForth.FULL);
        due("the 25th, apply", x.apply(ADD), BackAndForth.FULL);
        due("the 17th statement", x.update(CHECK, 0), BackAndForth.FULL);

        // FULL comes before TOO_FEW in apply: here one expression is left.
        x = new Trial();
        x.number(1);
        for (int i = 0; i < 11; i++) {
            x.number(1);
            x.apply(ADD);
        }
        due("24th", x.number(1), 2);
        due("check", x.update(CHECK, 0), 1);
        due("apply of one, full", x.apply(ADD), BackAndForth.FULL);
        due("check", x.update(CHECK, 0), 2);
        due("apply of none, full", x.apply(ADD), BackAndForth.FULL);
        due("seq", x.seq(), 1);
        due("procedure", x.procedure(0), 3);
        due("number after procedure", x.number(1), 1);
        due("run", x.run(0, FORWARDS), BackAndForth.DONE);
    }

    private static int applied(int op, int a, int b) {
        Trial x = new Trial();
        x.register(1);
        x.register(2);
        x.apply(op);
        x.update(UPDATE_ADD, 0);
        x.procedure(0);
        x.load(1, a);
        x.load(2, b);
        due("run of an operation", x.run(0, FORWARDS), BackAndForth.DONE);
        due("first operand stays", x.look(1), a);
        due("second operand stays", x.look(2), b);
        return x.look(0);
    }

    private static void everyOperation() {
        int[] some = {0, 1, -1, 2, -3, 6, 77777, -65536, Integer.MAX_VALUE, Integer.MIN_VALUE};
        for (int a : some) {
            for (int b : some) {
                String of = " of " + a + ", " + b;
                due("add" + of, applied(ADD, a, b), a + b);
                due("sub" + of, applied(SUB, a, b), a - b);
                due("mul" + of, applied(MUL, a, b), a * b);
                due("xor" + of, applied(XOR, a, b), a ^ b);
                due("and" + of, applied(AND, a, b), a & b);
                due("less" + of, applied(LESS, a, b), a < b ? 1 : 0);
                due("same" + of, applied(SAME, a, b), a == b ? 1 : 0);
            }
        }
    }

    // ---- promise 5

    private static void simples() {
        Trial x = new Trial();
        int[] noOps = {-1, 6, Integer.MIN_VALUE, Integer.MAX_VALUE};
        for (int op : noOps) {
            due("simple(" + op + ")", x.simple(op, 0, 0), BackAndForth.BAD_ARG);
        }
        int[] noRegisters = {-1, 6, Integer.MIN_VALUE, Integer.MAX_VALUE};
        for (int r : noRegisters) {
            due("swap r " + r, x.simple(SWAP, r, 0), BackAndForth.BAD_ARG);
            due("swap n " + r, x.simple(SWAP, 0, r), BackAndForth.BAD_ARG);
            due("push " + r, x.simple(PUSH, r, 0), BackAndForth.BAD_ARG);
            due("pop " + r, x.simple(POP, r, 0), BackAndForth.BAD_ARG);
            due("call " + r, x.simple(CALL, 0, r), BackAndForth.BAD_ARG);
            due("back " + r, x.simple(BACK, 0, r), BackAndForth.BAD_ARG);
        }
        due("call 3", x.simple(CALL, 0, 3), BackAndForth.BAD_ARG);
        due("back 3", x.simple(BACK, 0, 3), BackAndForth.BAD_ARG);
        due("skip, what it has no use for", x.simple(SKIP, 99, -99), 1);
        due("push, what it has no use for", x.simple(PUSH, 5, 99), 2);
        due("pop, what it has no use for", x.simple(POP, 5, -99), 3);
        due("call, what it has no use for", x.simple(CALL, 99, 2), 4);
        due("back, what it has no use for", x.simple(BACK, -99, 2), 5);
        due("swap 5 5", x.simple(SWAP, 5, 5), 6);
        due("swap 0 5", x.simple(SWAP, 0, 5), 7);
        due("discard", x.discard(), 7);

        fillStatements(x);
        due("simple, full", x.simple(SKIP, 0, 0), BackAndForth.FULL);
        due("simple(6), full", x.simple(6, 0, 0), BackAndForth.BAD_ARG);
        due("push 6, full", x.simple(PUSH, 6, 0), BackAndForth.BAD_ARG);
        due("discard", x.discard(), 16);
        fillStatements(x);
        due("simple, full again", x.simple(SKIP, 0, 0), BackAndForth.FULL);

        x.discard();
        for (int i = 1; i <= 15; i++) {
            x.simple(SKIP, 0, 0);
        }
        due("seq is the 16th", x.seq(), 14);
        due("17th, though fewer are stacked", x.simple(SKIP, 0, 0), BackAndForth.FULL);
    }

    private static void simplesRun() {
        Trial x = new Trial();
        simpleProcedure(x, 0, SWAP, 1, 4);
        simpleProcedure(x, 1, SWAP, 3, 3);
        x.load(1, 11);
        x.load(4, 44);
        x.load(3, 33);
        due("swap", x.run(0, FORWARDS), BackAndForth.DONE);
        dueState("swap", x, BackAndForth.DONE, 1, 0, 44, 0, 33, 11);
        due("swap backwards", x.run(0, BACKWARDS), BackAndForth.DONE);
        dueState("swap backwards", x, BackAndForth.DONE, 1, 0, 11, 0, 33, 44);
        due("swap of one", x.run(1, FORWARDS), BackAndForth.DONE);
        dueState("swap of one", x, BackAndForth.DONE, 1, 0, 11, 0, 33, 44);
    }

    private static void pushAndPop() {
        Trial x = new Trial();
        simpleProcedure(x, 0, PUSH, 2, 0);
        simpleProcedure(x, 1, POP, 3, 0);
        x.load(2, -7);
        due("push", x.run(0, FORWARDS), BackAndForth.DONE);
        dueState("push", x, BackAndForth.DONE, 1);
        duePile("push", x, -7);
        due("push of 0", x.run(0, FORWARDS), BackAndForth.DONE);
        duePile("push of 0", x, 0, -7);
        due("push backwards pops", x.run(0, BACKWARDS), BackAndForth.DONE);
        duePile("push backwards pops", x, -7);
        due("pop", x.run(1, FORWARDS), BackAndForth.DONE);
        dueState("pop", x, BackAndForth.DONE, 1, 0, 0, 0, -7);
        duePile("pop", x);
        due("pop backwards pushes", x.run(1, BACKWARDS), BackAndForth.DONE);
        dueState("pop backwards pushes", x, BackAndForth.DONE, 1);
        duePile("pop backwards pushes", x, -7);
        x.load(2, 5);
        due("push backwards, register not 0", x.run(0, BACKWARDS), BackAndForth.FAILED);
        dueState("push backwards, register not 0", x, BackAndForth.FAILED, 1, 0, 0, 5);
        x.load(3, 6);
        due("pop, register not 0", x.run(1, FORWARDS), BackAndForth.FAILED);
        dueState("pop, register not 0", x, BackAndForth.FAILED, 1, 0, 0, 5, 6);
        duePile("pop, register not 0", x, -7);
    }

    private static void pileEdges() {
        Trial x = new Trial();
        simpleProcedure(x, 0, PUSH, 0, 0);
        simpleProcedure(x, 1, POP, 1, 0);
        due("pop, empty", x.run(1, FORWARDS), BackAndForth.FAILED);
        dueState("pop, empty", x, BackAndForth.FAILED, 1);
        due("push backwards, empty", x.run(0, BACKWARDS), BackAndForth.FAILED);
        for (int i = 1; i <= 12; i++) {
            x.load(0, i);
            due("push " + i, x.run(0, FORWARDS), BackAndForth.DONE);
            due("pile of " + i, x.pile(), i);
        }
        duePile("full pile", x, 12, 11, 10, 9, 8, 7, 6, 5, 4, 3, 2, 1);
        x.load(0, 13);
        x.load(1, 14);
        due("push, full", x.run(0, FORWARDS), BackAndForth.FAILED);
        dueState("push, full", x, BackAndForth.FAILED, 1, 13, 14);
        due("pop backwards, full", x.run(1, BACKWARDS), BackAndForth.FAILED);
        dueState("pop backwards, full", x, BackAndForth.FAILED, 1, 13, 14);
        duePile("still full", x, 12, 11, 10, 9, 8, 7, 6, 5, 4, 3, 2, 1);
        for (int i = 12; i >= 1; i--) {
            x.load(1, 0);
            due("pop " + i, x.run(1, FORWARDS), BackAndForth.DONE);
            due("popped", x.look(1), i);
        }
        duePile("emptied", x);
    }

    private static void callsAndBacks() {
        Trial x = new Trial();
        updateProcedure(x, 0, UPDATE_ADD, 0, 3);
        simpleProcedure(x, 1, CALL, 0, 0);
        simpleProcedure(x, 2, BACK, 0, 0);
        due("call forwards", x.run(1, FORWARDS), BackAndForth.DONE);
        dueState("call forwards", x, BackAndForth.DONE, 2, 3);
        due("call backwards", x.run(1, BACKWARDS), BackAndForth.DONE);
        dueState("call backwards", x, BackAndForth.DONE, 2, 0);
        due("back forwards", x.run(2, FORWARDS), BackAndForth.DONE);
        dueState("back forwards", x, BackAndForth.DONE, 2, -3);
        due("back backwards", x.run(2, BACKWARDS), BackAndForth.DONE);
        dueState("back backwards", x, BackAndForth.DONE, 2, 0);
        // A back of a back is forwards again; and a call finds what the procedure is now.
        simpleProcedure(x, 1, BACK, 0, 2);
        due("back of back", x.run(1, FORWARDS), BackAndForth.DONE);
        dueState("back of back", x, BackAndForth.DONE, 3, 3);
        updateProcedure(x, 0, UPDATE_ADD, 4, 50);
        due("after a change", x.run(1, FORWARDS), BackAndForth.DONE);
        dueState("after a change", x, BackAndForth.DONE, 3, 3, 0, 0, 0, 50);
    }

    // ---- promise 6

    private static void updates() {
        Trial x = new Trial();
        int[] noOps = {-1, 4, Integer.MIN_VALUE, Integer.MAX_VALUE, Integer.MAX_VALUE - 3};
        due("update of none", x.update(UPDATE_ADD, 0), BackAndForth.TOO_FEW);
        due("check of none", x.update(CHECK, 0), BackAndForth.TOO_FEW);
        for (int op : noOps) {
            due("update(" + op + ") of none", x.update(op, 0), BackAndForth.BAD_ARG);
        }
        x.number(1);
        for (int op : noOps) {
            due("update(" + op + ")", x.update(op, 0), BackAndForth.BAD_ARG);
        }
        int[] noRegisters = {-1, 6, Integer.MIN_VALUE, Integer.MAX_VALUE};
        for (int op = 0; op < 3; op++) {
            for (int r : noRegisters) {
                due("update(" + op + ", " + r + ")", x.update(op, r), BackAndForth.BAD_ARG);
            }
        }
        due("the expression is still there", x.number(1), 2);
        for (int i = 0; i < 4; i++) {
            x.number(1);
        }
        due("check, r does not matter", x.update(CHECK, 99), 1);
        due("check, r does not matter", x.update(CHECK, Integer.MIN_VALUE), 2);
        for (int op = 0; op < 3; op++) {
            due("update(" + op + ", 5)", x.update(op, 5), 3 + op);
        }
        due("one is left", x.number(1), 2);
        x.discard();

        x.register(0);
        fillStatements(x);
        due("update, full before BAD_SELF", x.update(UPDATE_ADD, 0), BackAndForth.FULL);
        due("update, BAD_ARG before full", x.update(UPDATE_ADD, 6), BackAndForth.BAD_ARG);
        due("update, BAD_ARG before full", x.update(4, 0), BackAndForth.BAD_ARG);
        x.discard();
        fillStatements(x);
        due("update, full before TOO_FEW", x.update(UPDATE_ADD, 0), BackAndForth.FULL);
    }

    private static void updatesRun() {
        int[] ops = {UPDATE_ADD, UPDATE_SUB, UPDATE_XOR};
        int[] starts = {0, 5, -9, Integer.MAX_VALUE, Integer.MIN_VALUE};
        int[] values = {0, 1, -1, 12345, Integer.MAX_VALUE, Integer.MIN_VALUE};
        for (int op : ops) {
            Trial x = new Trial();
            x.register(2);
            x.update(op, 3);
            x.procedure(1);
            for (int start : starts) {
                for (int value : values) {
                    int up = start + value;
                    int down = start - value;
                    int mixed = start ^ value;
                    String of = "update " + op + " of " + start + " by " + value;
                    x.load(2, value);
                    x.load(3, start);
                    due(of, x.run(1, FORWARDS), BackAndForth.DONE);
                    due(of, x.look(3), op == UPDATE_ADD ? up : op == UPDATE_SUB ? down : mixed);
                    due(of + " and back", x.run(1, BACKWARDS), BackAndForth.DONE);
                    due(of + " and back", x.look(3), start);
                    due(of + " backwards", x.run(1, 77), BackAndForth.DONE);
                    due(of + " backwards", x.look(3), op == UPDATE_ADD ? down : op == UPDATE_SUB ? up : mixed);
                }
            }
        }
        Trial x = new Trial();
        x.register(0);
        x.update(CHECK, 0);
        x.procedure(0);
        int[] numbers = {0, 1, -1, Integer.MIN_VALUE};
        for (int number : numbers) {
            x.load(0, number);
            int ending = number == 0 ? BackAndForth.FAILED : BackAndForth.DONE;
            due("check of " + number, x.run(0, FORWARDS), ending);
            dueState("check of " + number, x, ending, 1, number);
            due("check of " + number + " backwards", x.run(0, BACKWARDS), ending);
            dueState("check of " + number + " backwards", x, ending, 1, number);
        }
    }

    private static void selfUse() {
        for (int r = 0; r < 6; r++) {
            for (int op = 0; op < 3; op++) {
                Trial x = new Trial();
                x.register(r);
                due("self", x.update(op, r), BackAndForth.BAD_SELF);
                x.number(2);
                x.apply(MUL);
                due("self on the left", x.update(op, r), BackAndForth.BAD_SELF);
                x.number(0);
                x.number(3);
                x.apply(ADD);
                x.apply(MUL);
                due("self deep", x.update(op, r), BackAndForth.BAD_SELF);
                x.register((r + 1) % 6);
                x.register((r + 2) % 6);
                x.apply(XOR);
                due("another register", x.update(op, r), 1);
                due("self is still there", x.update(op, r), BackAndForth.BAD_SELF);
                x.number(1);
                due("self below does not matter", x.update(op, r), 2);
                due("self in another register", x.update(op, (r + 3) % 6), 3);
                x.number(1);
                x.register(r);
                x.apply(SUB);
                due("self on the right", x.update(op, r), BackAndForth.BAD_SELF);
                due("check may have it", x.update(CHECK, r), 4);
            }
        }
    }

    // ---- promises 7 and 8

    private static void seqs() {
        Trial x = new Trial();
        due("seq of none", x.seq(), BackAndForth.TOO_FEW);
        x.number(2);
        x.update(UPDATE_ADD, 0);
        due("seq of one", x.seq(), BackAndForth.TOO_FEW);
        x.simple(SWAP, 0, 1);
        due("seq of two", x.seq(), 1);
        due("seq of what is left", x.seq(), BackAndForth.TOO_FEW);
        due("procedure", x.procedure(0), 3);
        x.load(0, 10);
        x.load(1, 20);
        due("A then B", x.run(0, FORWARDS), BackAndForth.DONE);
        dueState("A then B", x, BackAndForth.DONE, 2, 20, 12);
        due("B then A", x.run(0, BACKWARDS), BackAndForth.DONE);
        dueState("B then A", x, BackAndForth.DONE, 2, 10, 20);
        due("B then A again", x.run(0, BACKWARDS), BackAndForth.DONE);
        dueState("B then A again", x, BackAndForth.DONE, 2, 18, 10);
    }

    private static void testeds() {
        Trial x = new Trial();
        int[] noOps = {-1, 2, Integer.MIN_VALUE, Integer.MAX_VALUE};
        for (int op : noOps) {
            due("tested(" + op + ") of none", x.tested(op), BackAndForth.BAD_ARG);
        }
        for (int op = 0; op < 2; op++) {
            x.discard();
            due("tested of none", x.tested(op), BackAndForth.TOO_FEW);
            x.number(1);
            x.number(1);
            due("no statement", x.tested(op), BackAndForth.TOO_FEW);
            x.simple(SKIP, 0, 0);
            due("one statement", x.tested(op), BackAndForth.TOO_FEW);
            x.simple(SKIP, 0, 0);
            due("two and two", x.tested(op), 1);
            x.simple(SKIP, 0, 0);
            due("no expression", x.tested(op), BackAndForth.TOO_FEW);
            x.number(1);
            due("one expression", x.tested(op), BackAndForth.TOO_FEW);
            x.number(1);
            x.number(1);
            x.simple(SKIP, 0, 0);
            due("three and three", x.tested(op), 2);
            due("one expression was left", x.number(1), 2);
            x.discard();
            fillStatements(x);
            due("full before TOO_FEW", x.tested(op), BackAndForth.FULL);
            x.number(1);
            x.number(1);
            due("full", x.tested(op), BackAndForth.FULL);
            due("BAD_ARG before full", x.tested(2), BackAndForth.BAD_ARG);
        }
    }

    /** Procedure 0: op, X register 0, Y register 1, A adds 1 to register 2, B adds 10 to it. */
    private static Trial branches(int op) {
        Trial x = new Trial();
        x.register(0);
        x.register(1);
        x.number(1);
        x.update(UPDATE_ADD, 2);
        x.number(10);
        x.update(UPDATE_ADD, 2);
        x.tested(op);
        due("branches", x.procedure(0), 3);
        return x;
    }

    private static void ifs() {
        int[] truths = {0, 1, -1, 256, Integer.MIN_VALUE};
        for (int first : truths) {
            Trial x = branches(IF);
            for (int second : truths) {
                String of = "if with " + first + ", " + second;
                boolean fits = (first != 0) == (second != 0);
                int ending = fits ? BackAndForth.DONE : BackAndForth.FAILED;
                int part = !fits ? 0 : first != 0 ? 1 : 10;
                x.load(0, first);
                x.load(1, second);
                x.load(2, 100);
                due(of, x.run(0, FORWARDS), ending);
                dueState(of, x, ending, 1, first, second, 100 + part);
                x.load(2, 100);
                due(of + " backwards", x.run(0, BACKWARDS), ending);
                dueState(of + " backwards", x, ending, 1, first, second, 100 - part);
            }
        }
        // X alone chooses forwards, Y alone backwards: A sets what Y asks for.
        Trial x = new Trial();
        x.register(0);
        x.number(5);
        x.apply(SAME);
        x.register(0);
        x.number(6);
        x.apply(SAME);
        x.number(1);
        x.update(UPDATE_ADD, 0);
        x.number(2);
        x.update(UPDATE_ADD, 0);
        x.tested(IF);
        x.procedure(0);
        x.load(0, 5);
        due("if by X", x.run(0, FORWARDS), BackAndForth.DONE);
        dueState("if by X", x, BackAndForth.DONE, 1, 6);
        due("if by Y", x.run(0, BACKWARDS), BackAndForth.DONE);
        dueState("if by Y", x, BackAndForth.DONE, 1, 5);
        x.load(0, 4);
        due("else, Y true", x.run(0, FORWARDS), BackAndForth.FAILED);
        dueState("else, Y true", x, BackAndForth.FAILED, 1, 4);
        x.load(0, 7);
        due("else backwards, X true", x.run(0, BACKWARDS), BackAndForth.FAILED);
        dueState("else backwards, X true", x, BackAndForth.FAILED, 1, 7);
    }

    private static void loops() {
        // X and Y don't change: with X true the loop either ends after A or fails after B.
        Trial x = branches(LOOP);
        for (int b = 0; b < 2; b++) {
            int sign = b == 0 ? 1 : -1;
            x.load(2, 0);
            x.load(b, 0);
            x.load(1 - b, 1);
            due("loop, not entered", x.run(0, b), BackAndForth.FAILED);
            dueState("loop, not entered", x, BackAndForth.FAILED, 0, b == 0 ? 0 : 1, b == 0 ? 1 : 0);
            x.load(b, -1);
            due("loop, A once", x.run(0, b), BackAndForth.DONE);
            dueState("loop, A once", x, BackAndForth.DONE, 1, b == 0 ? -1 : 1, b == 0 ? 1 : -1, sign);
            x.load(1 - b, 0);
            due("loop, fails after B", x.run(0, b), BackAndForth.FAILED);
            dueState("loop, fails after B", x, BackAndForth.FAILED, 2, b == 0 ? -1 : 0, b == 0 ? 0 : -1, sign);
        }
        // Counts register 0 up from 0 to register 1; A adds 10 to register 2, B adds 1 to register 0.
        x = new Trial();
        x.register(0);
        x.number(0);
        x.apply(SAME);
        x.register(0);
        x.register(1);
        x.apply(SAME);
        x.number(10);
        x.update(UPDATE_ADD, 2);
        x.number(1);
        x.update(UPDATE_ADD, 0);
        x.tested(LOOP);
        x.procedure(2);
        x.load(1, 4);
        due("loop", x.run(2, FORWARDS), BackAndForth.DONE);
        dueState("loop", x, BackAndForth.DONE, 9, 4, 4, 50);
        due("loop backwards", x.run(2, BACKWARDS), BackAndForth.DONE);
        dueState("loop backwards", x, BackAndForth.DONE, 9, 0, 4, 0);
        x.load(0, 3);
        due("loop backwards, Y not true", x.run(2, BACKWARDS), BackAndForth.FAILED);
        dueState("loop backwards, Y not true", x, BackAndForth.FAILED, 0, 3, 4, 0);
    }

    // ---- promises 9 to 11

    private static void discards() {
        Trial x = new Trial();
        x.number(1);
        x.number(2);
        due("discard of expressions alone", x.discard(), 0);
        due("both are gone", x.number(1), 1);
        x.simple(SKIP, 0, 0);
        x.simple(SKIP, 0, 0);
        due("discard of two", x.discard(), 2);
        due("discard of none", x.discard(), 0);
        due("expressions are gone too", x.number(1), 1);
        due("statements are gone", x.simple(SKIP, 0, 0), 1);
        x.discard();
        x.load(2, 8);
        updateProcedure(x, 1, UPDATE_ADD, 2, 5);
        x.simple(SKIP, 0, 0);
        x.discard();
        due("procedures stay", x.run(1, FORWARDS), BackAndForth.DONE);
        due("registers stay", x.look(2), 13);
        x.discard();
        due("the outcome stays", x.outcome(), BackAndForth.DONE);
        due("the steps stay", x.steps(), 1);
    }

    private static void procedures() {
        Trial x = new Trial();
        int[] none = {-1, 3, Integer.MIN_VALUE, Integer.MAX_VALUE};
        for (int p : none) {
            due("procedure(" + p + "), BAD_ARG before TOO_FEW", x.procedure(p), BackAndForth.BAD_ARG);
        }
        due("procedure of none", x.procedure(0), BackAndForth.TOO_FEW);
        x.simple(SKIP, 0, 0);
        for (int p : none) {
            due("procedure(" + p + ")", x.procedure(p), BackAndForth.BAD_ARG);
        }
        x.number(1);
        due("procedure, an expression is there", x.procedure(0), BackAndForth.TOO_FEW);
        due("both are still there", x.update(CHECK, 0), 2);
        due("procedure of two", x.procedure(0), BackAndForth.TOO_FEW);
        due("seq", x.seq(), 1);
        due("procedure", x.procedure(0), 3);
        due("statements are gone", x.discard(), 0);
        fillStatements(x);
        fillExpressions(x);
        x.discard();
        // A procedure has 15 statements at most: 8 are joined by 7, and a 16th can't be joined.
        for (int i = 0; i < 8; i++) {
            x.simple(SKIP, 0, 0);
        }
        for (int i = 7; i >= 1; i--) {
            due("seq", x.seq(), i);
        }
        due("the 16th", x.simple(SKIP, 0, 0), 2);
        due("procedure of two", x.procedure(1), BackAndForth.TOO_FEW);
        due("seq, the 17th", x.seq(), BackAndForth.FULL);
        x.discard();
        for (int i = 0; i < 8; i++) {
            x.simple(SKIP, 0, 0);
        }
        for (int i = 7; i >= 1; i--) {
            x.seq();
        }
        due("procedure of 15", x.procedure(1), 15);
        due("run of 15", x.run(1, FORWARDS), BackAndForth.DONE);
        due("steps of 15", x.steps(), 8);
        due("procedure 0 is as it was", x.run(0, BACKWARDS), BackAndForth.DONE);
        due("its steps", x.steps(), 2);

        // Made anew again and again, none disturbs another.
        for (int round = 0; round < 12; round++) {
            updateProcedure(x, round % 3, UPDATE_ADD, round % 3, round);
            x.number(100);
            x.update(UPDATE_SUB, 5);
            x.discard();
        }
        for (int p = 0; p < 3; p++) {
            due("made anew", x.run(p, FORWARDS), BackAndForth.DONE);
        }
        dueState("made anew", x, BackAndForth.DONE, 1, 9, 10, 11);
    }

    private static void loads() {
        Trial x = new Trial();
        int[] none = {-1, 6, Integer.MIN_VALUE, Integer.MAX_VALUE};
        for (int r : none) {
            due("load(" + r + ")", x.load(r, 1), BackAndForth.BAD_ARG);
        }
        dueState("loads refused", x, BackAndForth.NONE, 0);
        int[] values = {1, -1, Integer.MIN_VALUE, Integer.MAX_VALUE, 0, 7};
        for (int r = 0; r < 6; r++) {
            due("load(" + r + ")", x.load(r, values[r]), 0);
        }
        dueState("loaded", x, BackAndForth.NONE, 0, values);
        due("load again", x.load(0, 3), 0);
        due("look", x.look(0), 3);
    }

    // ---- promises 12, 13 and 17, and how runs end

    private static void runs() {
        Trial x = new Trial();
        int[] none = {-1, 3, Integer.MIN_VALUE, Integer.MAX_VALUE};
        for (int p : none) {
            due("run(" + p + ")", x.run(p, 0), BackAndForth.BAD_ARG);
        }
        dueState("no run yet", x, BackAndForth.NONE, 0);
        updateProcedure(x, 2, UPDATE_ADD, 1, 4);
        int[] backs = {1, -1, 2, Integer.MIN_VALUE, Integer.MAX_VALUE};
        int want = 0;
        for (int back : backs) {
            due("run(2, " + back + ")", x.run(2, back), BackAndForth.DONE);
            want -= 4;
            due("backwards", x.look(1), want);
        }
        due("run(2, 0)", x.run(2, 0), BackAndForth.DONE);
        due("forwards", x.look(1), want + 4);
        // What is on the stacks has nothing to do with a run.
        x.number(1);
        x.simple(SKIP, 0, 0);
        x.run(2, 0);
        due("statements stay", x.simple(SKIP, 0, 0), 2);
        due("expressions stay", x.number(1), 2);
    }

    private static void endings() {
        Trial x = new Trial();
        // Changes registers and pile, then fails by check of register 5.
        x.simple(PUSH, 0, 0);
        x.simple(POP, 1, 0);
        x.seq();
        x.simple(POP, 2, 0);
        x.seq();
        x.simple(PUSH, 3, 0);
        x.seq();
        x.register(5);
        x.update(CHECK, 0);
        x.seq();
        due("procedure", x.procedure(0), 9);
        simpleProcedure(x, 1, PUSH, 4, 0);
        x.load(4, 40);
        x.run(1, FORWARDS);
        x.load(4, 41);
        x.run(1, FORWARDS);
        x.load(0, 1);
        x.load(3, 3);
        due("failing late", x.run(0, FORWARDS), BackAndForth.FAILED);
        dueState("failing late", x, BackAndForth.FAILED, 5, 1, 0, 0, 3);
        duePile("failing late", x, 41, 40);
        x.load(5, 1);
        due("not failing", x.run(0, FORWARDS), BackAndForth.DONE);
        dueState("not failing", x, BackAndForth.DONE, 5, 0, 1, 41, 0, 0, 1);
        duePile("not failing", x, 3, 40);
        due("backwards", x.run(0, BACKWARDS), BackAndForth.DONE);
        dueState("backwards", x, BackAndForth.DONE, 5, 1, 0, 0, 3, 0, 1);
        duePile("backwards", x, 41, 40);
        x.load(1, 1);
        due("failing amidst", x.run(0, FORWARDS), BackAndForth.FAILED);
        dueState("failing amidst", x, BackAndForth.FAILED, 2, 1, 1, 0, 3, 0, 1);
        duePile("failing amidst", x, 41, 40);
    }

    private static void tiredEdges() {
        // A, then n times B and A: 2n + 1 steps.
        Trial x = new Trial();
        countingLoop(x, 0, 149);
        due("299 steps", x.run(0, FORWARDS), BackAndForth.DONE);
        dueState("299 steps", x, BackAndForth.DONE, 299, 149, 149);
        countingLoop(x, 0, 150);
        due("301 steps", x.run(0, FORWARDS), BackAndForth.TIRED);
        dueState("301 steps", x, BackAndForth.TIRED, 300, 0, 150);
        x.load(0, 150);
        due("301 steps backwards", x.run(0, BACKWARDS), BackAndForth.TIRED);
        dueState("301 steps backwards", x, BackAndForth.TIRED, 300, 150, 150);

        // A call before it is a step of its own: 300 is just not too many.
        simpleProcedure(x, 1, CALL, 0, 0);
        x.load(0, 0);
        x.load(1, 149);
        due("300 steps", x.run(1, FORWARDS), BackAndForth.DONE);
        dueState("300 steps", x, BackAndForth.DONE, 300, 149, 149);

        // After 300 steps what is no step is still done: here a loop that fails on the way in.
        x.simple(CALL, 0, 0);
        x.number(0);
        x.number(1);
        x.simple(SKIP, 0, 0);
        x.simple(SKIP, 0, 0);
        x.tested(LOOP);
        x.seq();
        due("procedure", x.procedure(2), 5);
        x.load(0, 0);
        due("fails at 300", x.run(2, FORWARDS), BackAndForth.FAILED);
        dueState("fails at 300", x, BackAndForth.FAILED, 300, 0, 149);
        x.load(1, 150);
        due("tired before", x.run(2, FORWARDS), BackAndForth.TIRED);
        dueState("tired before", x, BackAndForth.TIRED, 300, 0, 150);

        // A loop that never ends is tired, with nothing changed.
        x.number(1);
        x.update(UPDATE_ADD, 3);
        x.simple(SKIP, 0, 0);
        x.register(3);
        x.number(0);
        x.apply(SAME);
        x.number(0);
        x.tested(LOOP);
        x.procedure(0);
        x.load(0, 0);
        x.load(1, 0);
        due("endless", x.run(0, FORWARDS), BackAndForth.TIRED);
        dueState("endless", x, BackAndForth.TIRED, 300);
    }

    private static void deepEdges() {
        // Procedure 0 calls itself until register 0, counted down, is 0; register 1 counts up.
        Trial x = new Trial();
        x.register(0);
        x.number(1);
        x.update(UPDATE_SUB, 0);
        x.number(1);
        x.update(UPDATE_ADD, 1);
        x.seq();
        x.simple(CALL, 0, 0);
        x.seq();
        x.number(1);
        x.update(UPDATE_ADD, 0);
        x.seq();
        x.simple(SKIP, 0, 0);
        x.register(0);
        x.tested(IF);
        due("procedure", x.procedure(0), 9);
        x.load(0, 6);
        due("6 deep", x.run(0, FORWARDS), BackAndForth.DONE);
        dueState("6 deep", x, BackAndForth.DONE, 25, 6, 6);
        due("6 deep backwards", x.run(0, BACKWARDS), BackAndForth.DONE);
        dueState("6 deep backwards", x, BackAndForth.DONE, 25, 6, 0);
        x.load(0, 7);
        due("7 deep", x.run(0, FORWARDS), BackAndForth.DEEP);
        dueState("7 deep", x, BackAndForth.DEEP, 21, 7, 0);

        // Calls that have ended don't count: 8 in a row, of a procedure that calls.
        simpleProcedure(x, 1, BACK, 0, 2);
        simpleProcedure(x, 2, SKIP, 0, 0);
        for (int i = 0; i < 8; i++) {
            x.simple(i % 2 == 0 ? CALL : BACK, 0, 1);
        }
        for (int i = 0; i < 7; i++) {
            x.seq();
        }
        due("procedure", x.procedure(0), 15);
        due("calls in a row", x.run(0, FORWARDS), BackAndForth.DONE);
        due("their steps", x.steps(), 24);
        due("calls in a row, backwards", x.run(0, BACKWARDS), BackAndForth.DONE);
        due("their steps", x.steps(), 24);

        // A back of itself goes as deep as a call.
        simpleProcedure(x, 0, BACK, 0, 0);
        for (int b = 0; b < 2; b++) {
            due("back of itself", x.run(0, b), BackAndForth.DEEP);
            due("its steps", x.steps(), 7);
            due("its outcome", x.outcome(), BackAndForth.DEEP);
        }
        due("a run after it", x.run(2, FORWARDS), BackAndForth.DONE);
        due("its steps", x.steps(), 1);
        deepAndWide();
        deepOrTired(3, BackAndForth.DEEP);
        deepOrTired(4, BackAndForth.TIRED);
    }

    /** The call that would be too deep is step 297 and so many. */
    private static void deepOrTired(int skips, int ending) {
        Trial x = new Trial();
        countingLoop(x, 0, 13);
        x.simple(CALL, 0, 0);
        x.simple(BACK, 0, 0);
        x.seq();
        x.simple(SKIP, 0, 0);
        x.seq();
        x.simple(SKIP, 0, 0);
        x.seq();
        x.simple(CALL, 0, 1);
        x.seq();
        due("procedure of 59 steps", x.procedure(1), 9);
        for (int i = 0; i < skips; i++) {
            x.simple(SKIP, 0, 0);
        }
        x.simple(CALL, 0, 1);
        for (int i = 0; i < skips; i++) {
            x.seq();
        }
        due("procedure", x.procedure(2), 2 * skips + 1);
        due("deep at step " + (297 + skips), x.run(2, FORWARDS), ending);
        dueState("deep at step " + (297 + skips), x, ending, 300, 0, 13);
    }

    /** The deepest nest that 16 statements allow, in every one of the calls that may be open. */
    private static void deepAndWide() {
        Trial x = new Trial();
        x.simple(CALL, 0, 0);
        for (int i = 0; i < 7; i++) {
            x.simple(SKIP, 0, 0);
            x.seq();
        }
        due("procedure", x.procedure(0), 15);
        due("deep forwards", x.run(0, FORWARDS), BackAndForth.DEEP);
        due("its steps", x.steps(), 7);
        due("deep backwards", x.run(0, BACKWARDS), BackAndForth.DEEP);
        due("its steps", x.steps(), 7 * 8);
        for (int i = 0; i < 7; i++) {
            x.simple(SKIP, 0, 0);
        }
        x.simple(CALL, 0, 0);
        for (int i = 0; i < 7; i++) {
            x.seq();
        }
        due("procedure", x.procedure(0), 15);
        due("deep forwards", x.run(0, FORWARDS), BackAndForth.DEEP);
        due("its steps", x.steps(), 7 * 8);
    }

    // ---- promises 14 to 16

    private static void looksAndPile() {
        Trial x = new Trial();
        int[] none = {-1, 6, Integer.MIN_VALUE, Integer.MAX_VALUE};
        for (int r = 0; r < 6; r++) {
            x.load(r, r + 1);
        }
        for (int r : none) {
            due("look(" + r + ")", x.look(r), 0);
        }
        simpleProcedure(x, 0, PUSH, 0, 0);
        simpleProcedure(x, 1, PUSH, 1, 0);
        x.run(0, FORWARDS);
        x.run(1, FORWARDS);
        duePile("two", x, 2, 1);
        int[] noPlaces = {-1, 2, 11, 12, 13, Integer.MIN_VALUE, Integer.MAX_VALUE};
        for (int i : noPlaces) {
            due("onPile(" + i + ")", x.onPile(i), 0);
        }
        x.run(1, BACKWARDS);
        duePile("one", x, 1);
        due("onPile(1), gone", x.onPile(1), 0);
    }

    // ---- promise 18

    private static void orderAndLimits() {
        Trial x = new Trial();
        for (int i = 0; i < 8; i++) {
            x.simple(SKIP, 0, 0);
        }
        for (int i = 0; i < 7; i++) {
            x.seq();
        }
        due("seq of one, 15 made", x.seq(), BackAndForth.TOO_FEW);
        due("the 16th", x.simple(SKIP, 0, 0), 2);
        due("seq of two, 16 made", x.seq(), BackAndForth.FULL);
        x.discard();
        // FULL with fewer than two statements can't be reached: what joins takes two and gives one,
        // so that an even number is there whenever 16 were made.
        fillStatements(x);
        due("seq of 16", x.seq(), BackAndForth.FULL);

        simpleProcedureAfterDiscard(x);
        due("failing", x.run(0, FORWARDS), BackAndForth.FAILED);
        int[] none = {-1, 3, Integer.MIN_VALUE, Integer.MAX_VALUE};
        for (int p : none) {
            due("run(" + p + ")", x.run(p, 1), BackAndForth.BAD_ARG);
            dueState("after run(" + p + ")", x, BackAndForth.FAILED, 1);
        }
    }

    private static void simpleProcedureAfterDiscard(Trial x) {
        x.discard();
        simpleProcedure(x, 0, POP, 0, 0);
    }

    private static void refusedChangesNothing() {
        Trial x = new Trial();
        x.number(3);
        x.register(1);
        x.simple(PUSH, 2, 0);
        x.simple(SWAP, 0, 1);
        for (int round = 0; round < 40; round++) {
            due("refused", x.number(500), BackAndForth.BAD_ARG);
            due("refused", x.register(9), BackAndForth.BAD_ARG);
            due("refused", x.apply(9), BackAndForth.BAD_ARG);
            due("refused", x.simple(CALL, 0, 3), BackAndForth.BAD_ARG);
            due("refused", x.update(UPDATE_ADD, 1), BackAndForth.BAD_SELF);
            due("refused", x.tested(5), BackAndForth.BAD_ARG);
            due("refused", x.procedure(0), BackAndForth.TOO_FEW);
            due("refused", x.procedure(7), BackAndForth.BAD_ARG);
            due("refused", x.load(8, 8), BackAndForth.BAD_ARG);
            due("refused", x.run(8, 8), BackAndForth.BAD_ARG);
        }
        due("mul", x.apply(MUL), 1);
        due("add", x.update(UPDATE_ADD, 0), 3);
        due("seq", x.seq(), 2);
        due("seq", x.seq(), 1);
        due("procedure", x.procedure(2), 5);
        x.load(0, 100);
        x.load(1, 7);
        x.load(2, 9);
        due("run", x.run(2, FORWARDS), BackAndForth.DONE);
        dueState("run", x, BackAndForth.DONE, 3, 307, 100);
        duePile("run", x, 9);
    }
}
