/**
 * Promises 1 to 18, sentence by sentence: for each that names a boundary case, the last that is
 * taken and the first that is refused, and the order of tests where two of them apply at once.
 * What a run does in its course is in RunsTest; that refused calls change nothing, in RefusalsTest.
 */
public final class CallsTest {
    private static final int BAD_ARG = BackAndForth.BAD_ARG;
    private static final int FULL = BackAndForth.FULL;
    private static final int TOO_FEW = BackAndForth.TOO_FEW;
    private static final int NONE = BackAndForth.NONE;
    private static final int BAD_SELF = BackAndForth.BAD_SELF;
    private static final int DONE = BackAndForth.DONE;
    private static final int FAILED = BackAndForth.FAILED;
    private static final int TIRED = BackAndForth.TIRED;
    private static final int DEEP = BackAndForth.DEEP;

    private static final int MIN = Integer.MIN_VALUE;
    private static final int MAX = Integer.MAX_VALUE;

    private static final int CHECK = 3;
    private static final String[] OPERATIONS = {"+", "-", "*", "^", "&", "<", "="};

    /** Beside the edges: numbers that a byte, a short, a shift or a mask would take for small ones. */
    private static final int[] FAR = {
        MIN, MIN + 1, MIN + 2, MIN + 5, -65536, -256, -101, -32, -6, -3, -2, -1, 0, 1, 2, 3, 4, 5, 6, 7, 8,
        16, 24, 32, 33, 37, 64, 101, 128, 256, 257, 65536, 65541, 1 << 30, MAX - 1, MAX,
    };

    public static void main(String[] args) {
        constants();
        newObject();
        number();
        register();
        apply();
        expressionLimit();
        simple();
        update();
        seq();
        tested();
        statementLimit();
        discard();
        procedure();
        load();
        run();
        outcomeAndSteps();
        looking();
        orderAndLimits();
        lifeOfAnObject();
        Report.end();
    }

    // ---- helpers

    private static int[] outside(int low, int high) {
        int[] found = new int[FAR.length + 2];
        int count = 0;
        found[count++] = low - 1;
        found[count++] = high + 1;
        for (int number : FAR) {
            if (number < low || number > high) {
                found[count++] = number;
            }
        }
        return java.util.Arrays.copyOf(found, count);
    }

    private static void due(String what, int got, int want) {
        Report.due(what, got, want);
    }

    private static Trial repeated(Trial x, String word, int times) {
        for (int i = 0; i < times; i++) {
            x.put(word);
        }
        return x;
    }

    private static Trial fullOfExpressions() {
        return repeated(new Trial(), "r1", 24);
    }

    private static Trial fullOfStatements() {
        return repeated(new Trial(), "skip", 16);
    }

    /** What the expression made by these words is, with these registers. */
    private static int value(String words, int... registers) {
        Trial x = new Trial().make(0, words + " add5").fill(registers);
        due("run of " + words, x.run(0, 0), DONE);
        return x.look(5);
    }

    private static void dueExpressionsFull(Trial x) {
        due("number, full", x.number(1), FULL);
        due("register, full", x.register(1), FULL);
        due("apply, full", x.apply(0), FULL);
    }

    private static void dueStatementsFull(Trial x) {
        for (int op = 0; op <= 5; op++) {
            due("simple(" + op + "), full", x.simple(op, 0, 0), FULL);
        }
        for (int op = 0; op <= 3; op++) {
            due("update(" + op + "), full", x.update(op, 0), FULL);
        }
        due("seq, full", x.seq(), FULL);
        due("tested(0), full", x.tested(0), FULL);
        due("tested(1), full", x.tested(1), FULL);
    }

    /** So many expressions are taken, and the next one is refused. */
    private static void dueRoomForExpressions(Trial x, int room) {
        for (int i = 0; i < room; i++) {
            Report.must("there is room for expression " + (i + 1) + " of " + room, x.number(1) > 0);
        }
        dueExpressionsFull(x);
    }

    private static void dueRoomForStatements(Trial x, int room) {
        for (int i = 0; i < room; i++) {
            Report.must("there is room for statement " + (i + 1) + " of " + room, x.simple(0, 0, 0) > 0);
        }
        dueStatementsFull(x);
    }

    // ---- the constants

    private static void constants() {
        Report.sentence("BAD_ARG = -1, FULL = -2, TOO_FEW = -3, NONE = -4, BAD_SELF = -5", () -> {
            due("BAD_ARG", BAD_ARG, -1);
            due("FULL", FULL, -2);
            due("TOO_FEW", TOO_FEW, -3);
            due("NONE", NONE, -4);
            due("BAD_SELF", BAD_SELF, -5);
        });
        Report.sentence("DONE = 0, FAILED = 1, TIRED = 2, DEEP = 3", () -> {
            due("DONE", DONE, 0);
            due("FAILED", FAILED, 1);
            due("TIRED", TIRED, 2);
            due("DEEP", DEEP, 3);
        });
    }

    // ---- promise 1

    private static void newObject() {
        Report.sentence("1: all registers are 0", () -> Report.dueRegisters(new Trial()));
        Report.sentence("1: the pile is empty", () -> Report.duePile(new Trial()));
        Report.sentence("1: the stacks are empty", CallsTest::newStacks);
        Report.sentence("1: procedures 0 to 2 are skip", CallsTest::newProcedures);
        Report.sentence("1: procedures 0 to 2 are skip, each until it becomes another", () -> {
            for (int p = 0; p < 3; p++) {
                Trial x = new Trial();
                for (int i = 0; i < 4; i++) {
                    x.make(p, "n7 add5 n7 add4 seq n7 add3 seq");
                }
                Report.dueRun(x, (p + 1) % 3, 0, DONE, 1);
                Report.dueRun(x, (p + 2) % 3, 0, DONE, 1);
                Report.dueRegisters(x);
            }
        });
        Report.sentence("1: there was no run", () -> {
            due("outcome", new Trial().outcome(), NONE);
            due("steps", new Trial().steps(), 0);
        });
        Report.sentence("1: what another object did is not seen in a new one", () -> {
            Trial other = new Trial().pileUp(3, 4).make(0, "n1 add0").make(1, "n0 check").fill(1, 2, 3, 4, 5, 6);
            other.run(1, 0);
            other.put("n1 n2 skip skip skip");
            newStacks();
            newProcedures();
            Trial x = new Trial();
            due("outcome", x.outcome(), NONE);
            due("steps", x.steps(), 0);
            Report.dueRegisters(x);
            Report.duePile(x);
            Report.dueRegisters(other, 1, 2, 3, 4, 5, 6);
            Report.duePile(other, 4, 3);
            due("outcome of the other", other.outcome(), FAILED);
            due("steps of the other", other.steps(), 1);
            due("discard of the other", other.discard(), 3);
        });
    }

    private static void newStacks() {
        Trial x = new Trial();
        for (int op = 0; op <= 6; op++) {
            due("apply(" + op + ")", x.apply(op), TOO_FEW);
        }
        for (int op = 0; op <= 3; op++) {
            due("update(" + op + ")", x.update(op, 0), TOO_FEW);
        }
        due("seq", x.seq(), TOO_FEW);
        due("tested(0)", x.tested(0), TOO_FEW);
        due("tested(1)", x.tested(1), TOO_FEW);
        due("procedure", x.procedure(0), TOO_FEW);
        due("discard", x.discard(), 0);
        due("first number", new Trial().number(0), 1);
        due("first register", new Trial().register(0), 1);
        due("first simple", new Trial().simple(0, 0, 0), 1);
        dueRoomForExpressions(new Trial(), 24);
        dueRoomForStatements(new Trial(), 16);
    }

    private static void newProcedures() {
        for (int p = 0; p < 3; p++) {
            for (int way = 0; way < 2; way++) {
                Trial x = new Trial().fill(1, 2, 3, 4, 5, 6);
                Report.dueRun(x, p, way, DONE, 1);
                Report.dueRegisters(x, 1, 2, 3, 4, 5, 6);
                Report.duePile(x);
                x.make(p == 0 ? 1 : 0, "call" + p);
                Report.dueRun(x, p == 0 ? 1 : 0, way, DONE, 2);
                Report.dueRegisters(x, 1, 2, 3, 4, 5, 6);
            }
        }
    }

    // ---- promises 2 to 4

    private static void number() {
        Report.sentence("2: n not -100 to 100 answers BAD_ARG", () -> {
            Trial x = new Trial();
            for (int n : outside(-100, 100)) {
                due("number(" + n + ")", x.number(n), BAD_ARG);
            }
            due("number(-100)", x.number(-100), 1);
            due("number(100)", x.number(100), 2);
        });
        Report.sentence("2: pushes number n", () -> {
            for (int n = -100; n <= 100; n++) {
                due("the value of number " + n, value("n" + n), n);
            }
        });
        Report.sentence("2: BAD_ARG is tested before FULL", () -> {
            Trial x = fullOfExpressions();
            due("number(-101), full", x.number(-101), BAD_ARG);
            due("number(101), full", x.number(101), BAD_ARG);
            due("number(-100), full", x.number(-100), FULL);
            due("number(100), full", x.number(100), FULL);
        });
        Report.sentence("2: otherwise the number on the expression stack", () -> {
            Trial x = new Trial().put("skip skip skip");
            for (int i = 1; i <= 24; i++) {
                due("number " + i, x.number(i), i);
            }
            x = new Trial().put("r0 r0 r0 add1 +");
            due("number after others were taken", x.number(0), 2);
        });
    }

    private static void register() {
        Report.sentence("3: r not 0 to 5 answers BAD_ARG", () -> {
            Trial x = new Trial();
            for (int r : outside(0, 5)) {
                due("register(" + r + ")", x.register(r), BAD_ARG);
            }
            due("register(0)", x.register(0), 1);
            due("register(5)", x.register(5), 2);
        });
        Report.sentence("3: pushes register r", () -> {
            for (int r = 0; r < 6; r++) {
                int to = (r + 1) % 6;
                Trial x = new Trial().make(0, "r" + r + " add" + to).fill(10, 20, 30, 40, 50, 60);
                Report.dueRun(x, 0, 0, DONE, 1);
                due("register " + to + " with register " + r, x.look(to), 10 * (to + 1) + 10 * (r + 1));
                x.load(to, 0);
                x.load(r, MIN);
                Report.dueRun(x, 0, 0, DONE, 1);
                due("the register's number when it is run", x.look(to), MIN);
            }
        });
        Report.sentence("3: BAD_ARG is tested before FULL", () -> {
            Trial x = fullOfExpressions();
            due("register(-1), full", x.register(-1), BAD_ARG);
            due("register(6), full", x.register(6), BAD_ARG);
            due("register(0), full", x.register(0), FULL);
            due("register(5), full", x.register(5), FULL);
        });
        Report.sentence("3: otherwise the number on the expression stack", () -> {
            Trial x = new Trial().put("skip skip skip");
            for (int i = 1; i <= 24; i++) {
                due("register " + i, x.register(i % 6), i);
            }
            x = new Trial().put("n0 n0 n0 add1 +");
            due("register after others were taken", x.register(0), 2);
        });
    }

    private static void apply() {
        Report.sentence("4: op not 0 to 6 answers BAD_ARG", () -> {
            Trial x = new Trial().put("n1 n2");
            for (int op : outside(0, 6)) {
                due("apply(" + op + ")", x.apply(op), BAD_ARG);
            }
            for (int op = 0; op <= 6; op++) {
                due("apply(" + op + ")", new Trial().put("n1 n2").apply(op), 1);
            }
        });
        Report.sentence("4: takes X and, on top of it, Y off and pushes, by op", CallsTest::everyOperation);
        Report.sentence("4: only the top two are taken", () -> {
            due("2 - (3 - 5)", value("n2 n3 n5 - -"), 4);
            due("(2 - 3) - 5", value("n2 n3 - n5 -"), -6);
            due("7 * ((1 - 4) < (2 * 0))", value("n7 n1 n4 - n2 n0 * < *"), 7);
        });
        Report.sentence("4: fewer than two answers TOO_FEW", () -> {
            for (int op = 0; op <= 6; op++) {
                due("apply(" + op + ") of none", new Trial().apply(op), TOO_FEW);
                due("apply(" + op + ") of one", new Trial().put("n1").apply(op), TOO_FEW);
                due("apply(" + op + ") of two", new Trial().put("n1 n1").apply(op), 1);
                due("apply(" + op + ") after a taking", new Trial().put("n1 n1 check").apply(op), TOO_FEW);
                due("statements don't count", new Trial().put("skip skip n1").apply(op), TOO_FEW);
            }
        });
        Report.sentence("4: BAD_ARG is tested before FULL and TOO_FEW", () -> {
            int[] bad = {-1, 7};
            for (int op : bad) {
                due("apply of none", new Trial().apply(op), BAD_ARG);
                due("apply of one", new Trial().put("n1").apply(op), BAD_ARG);
                due("apply, full", fullOfExpressions().apply(op), BAD_ARG);
                due("apply of one, full", fullWithExpressions(1).apply(op), BAD_ARG);
            }
        });
        Report.sentence("4: FULL is tested before TOO_FEW", () -> {
            for (int op = 0; op <= 6; op++) {
                due("apply of none, full", fullWithExpressions(0).apply(op), FULL);
                due("apply of one, full", fullWithExpressions(1).apply(op), FULL);
                due("apply of two, full", fullWithExpressions(2).apply(op), FULL);
            }
        });
        Report.sentence("4: otherwise the number on the expression stack", () -> {
            Trial x = repeated(new Trial(), "n1", 12).put("skip skip skip");
            for (int left = 11; left >= 1; left--) {
                due("apply", x.apply(0), left);
            }
            due("apply of what is left", x.apply(0), TOO_FEW);
        });
    }

    /** 24 were made, and so many of them, at most two, are still there. */
    private static Trial fullWithExpressions(int there) {
        Trial x = repeated(new Trial().put("n1"), "n1 +", 11).put("n1");
        return repeated(x, "check", 2 - there);
    }

    private static void everyOperation() {
        int[] some = {0, 1, -1, 5, -7, 46341, -46341, 65536, MAX - 1, MAX, MIN, MIN + 1};
        for (int a : some) {
            for (int b : some) {
                int[] due = {a + b, a - b, a * b, a ^ b, a & b, a < b ? 1 : 0, a == b ? 1 : 0};
                for (int op = 0; op < 7; op++) {
                    String words = "r0 r1 " + OPERATIONS[op];
                    due(words + " of " + a + ", " + b, value(words, a, b), due[op]);
                }
            }
        }
    }

    private static void expressionLimit() {
        Report.sentence("2 to 4: 24 expressions were made answers FULL", () -> {
            dueExpressionsFull(repeated(new Trial(), "n1", 24));
            dueExpressionsFull(repeated(new Trial(), "r1", 24));
            dueExpressionsFull(repeated(new Trial().put("n1 n1 n1 n1"), "n1 +", 10));
            dueRoomForExpressions(repeated(new Trial(), "n1", 23), 1);
            dueRoomForExpressions(repeated(new Trial(), "r1", 23), 1);
            dueRoomForExpressions(repeated(new Trial().put("n1"), "n1 +", 11), 1);
        });
        Report.sentence("2 to 4: number, register and apply may each be the 24th", () -> {
            due("number", repeated(new Trial(), "n1", 23).number(1), 24);
            due("register", repeated(new Trial(), "n1", 23).register(1), 24);
            due("apply", repeated(new Trial(), "n1", 23).apply(0), 22);
        });
        Report.sentence("2 to 4: those that were taken off were made as well", () -> {
            dueRoomForExpressions(new Trial().put("n1 check n1 check n1 add0 r1 sub0"), 20);
            dueRoomForExpressions(new Trial().put("skip skip n1 n1 if skip n1 n1 loop"), 20);
            dueRoomForExpressions(new Trial().put("n1 n1 + n1 + check"), 19);
        });
        Report.sentence("2 to 4: since the stacks were last emptied by a call of discard", () -> {
            Trial x = fullOfExpressions();
            x.discard();
            dueRoomForExpressions(x, 24);
            x = new Trial().put("n1 n1 n1");
            x.discard();
            dueRoomForExpressions(x, 24);
            x = new Trial().put("n1 check");
            x.discard();
            x.put("n1");
            dueRoomForExpressions(x, 23);
        });
        Report.sentence("2 to 4: since the stacks were last emptied by a call of procedure", () -> {
            for (int p = 0; p < 3; p++) {
                dueRoomForExpressions(new Trial().make(p, "n1 check"), 24);
                Trial x = repeated(new Trial().put("n1"), "n1 +", 11).put("check");
                due("procedure", x.procedure(p), 1);
                dueRoomForExpressions(x, 24);
            }
        });
        Report.sentence("2 to 4: nothing else empties the stacks", () -> {
            Trial x = new Trial().put("n1 check n1");
            due("procedure, refused", x.procedure(0), TOO_FEW);
            due("procedure, refused", x.procedure(3), BAD_ARG);
            x.run(0, 0);
            x.load(0, 1);
            x.put("check seq");
            dueRoomForExpressions(x, 22);
        });
        Report.sentence("2 to 4: the limit of statements is not that of expressions", () -> {
            Trial x = fullOfStatements();
            due("number", x.number(1), 1);
            due("register", x.register(1), 2);
            due("apply", x.apply(0), 1);
            dueRoomForExpressions(x, 21);
        });
        Report.sentence("2 to 4: 23 are enough for one expression of any form", () -> {
            StringBuilder left = new StringBuilder("n1");
            StringBuilder right = new StringBuilder();
            for (int i = 2; i <= 12; i++) {
                left.append(" n").append(i).append(" -");
            }
            for (int i = 1; i <= 12; i++) {
                right.append(" n").append(i);
            }
            due("1 - 2 - .. - 12", value(left.toString()), 1 - 77);
            due("1 - (2 - (.. - 12))", value(right + " -".repeat(11)), -6);
        });
    }

    // ---- promise 5

    private static void simple() {
        Report.sentence("5: op not 0 to 5 answers BAD_ARG", () -> {
            Trial x = new Trial();
            for (int op : outside(0, 5)) {
                due("simple(" + op + ", 0, 0)", x.simple(op, 0, 0), BAD_ARG);
            }
            for (int op = 0; op <= 5; op++) {
                due("simple(" + op + ", 0, 0)", x.simple(op, 0, 0), op + 1);
            }
        });
        Report.sentence("5: r not 0 to 5 for swap, push or pop answers BAD_ARG", () -> {
            for (int op = 1; op <= 3; op++) {
                Trial x = new Trial();
                for (int r : outside(0, 5)) {
                    due("simple(" + op + ", " + r + ", 0)", x.simple(op, r, 0), BAD_ARG);
                }
                for (int r = 0; r <= 5; r++) {
                    due("simple(" + op + ", " + r + ", 0)", x.simple(op, r, 0), r + 1);
                }
            }
        });
        Report.sentence("5: n not 0 to 5 for swap answers BAD_ARG", () -> {
            Trial x = new Trial();
            for (int n : outside(0, 5)) {
                due("simple(1, 0, " + n + ")", x.simple(1, 0, n), BAD_ARG);
                due("simple(1, 6, " + n + ")", x.simple(1, 6, n), BAD_ARG);
            }
            for (int n = 0; n <= 5; n++) {
                due("simple(1, 0, " + n + ")", x.simple(1, 0, n), n + 1);
            }
        });
        Report.sentence("5: n not 0 to 2 for call or back answers BAD_ARG", () -> {
            for (int op = 4; op <= 5; op++) {
                Trial x = new Trial();
                for (int n : outside(0, 2)) {
                    due("simple(" + op + ", 0, " + n + ")", x.simple(op, 0, n), BAD_ARG);
                }
                for (int n = 0; n <= 2; n++) {
                    due("simple(" + op + ", 0, " + n + ")", x.simple(op, 0, n), n + 1);
                }
            }
        });
        Report.sentence("5: what the op has no use for does not matter", () -> {
            for (int any : FAR) {
                due("skip, r " + any, new Trial().simple(0, any, 0), 1);
                due("skip, n " + any, new Trial().simple(0, 0, any), 1);
                due("skip, both " + any, new Trial().simple(0, any, any), 1);
                due("push, n " + any, new Trial().simple(2, 5, any), 1);
                due("pop, n " + any, new Trial().simple(3, 5, any), 1);
                due("call, r " + any, new Trial().simple(4, any, 2), 1);
                due("back, r " + any, new Trial().simple(5, any, 2), 1);
                uselessWhenRun(any);
            }
        });
        Report.sentence("5: swap r n: r and n may be the same", () -> {
            for (int r = 0; r <= 5; r++) {
                due("swap of one", new Trial().simple(1, r, r), 1);
            }
        });
        Report.sentence("5: BAD_ARG is tested before FULL", () -> {
            Trial x = fullOfStatements();
            due("simple(-1), full", x.simple(-1, 0, 0), BAD_ARG);
            due("simple(6), full", x.simple(6, 0, 0), BAD_ARG);
            for (int op = 1; op <= 3; op++) {
                due("r of " + op + ", full", x.simple(op, -1, 0), BAD_ARG);
                due("r of " + op + ", full", x.simple(op, 6, 0), BAD_ARG);
            }
            due("n of swap, full", x.simple(1, 0, -1), BAD_ARG);
            due("n of swap, full", x.simple(1, 0, 6), BAD_ARG);
            for (int op = 4; op <= 5; op++) {
                due("n of " + op + ", full", x.simple(op, 0, -1), BAD_ARG);
                due("n of " + op + ", full", x.simple(op, 0, 3), BAD_ARG);
            }
            due("skip 99 99, full", x.simple(0, 99, 99), FULL);
            due("push 5 99, full", x.simple(2, 5, 99), FULL);
            due("call 99 2, full", x.simple(4, 99, 2), FULL);
        });
        Report.sentence("5: otherwise the number on the statement stack", () -> {
            Trial x = new Trial().put("n1 n1 n1");
            for (int i = 1; i <= 16; i++) {
                due("simple " + i, x.simple(0, 0, 0), i);
            }
            due("after others were taken", new Trial().put("skip skip skip seq").simple(0, 0, 0), 3);
        });
    }

    /** The statements do the same, whatever stood where they have no use for it. */
    private static void uselessWhenRun(int any) {
        Trial x = new Trial().make(2, "n7 add3");
        x.simple(0, any, any);
        x.simple(2, 1, any);
        x.seq();
        x.simple(3, 2, any);
        x.seq();
        x.simple(4, any, 2);
        x.seq();
        x.simple(5, any, 2);
        x.seq();
        due("procedure", x.procedure(0), 9);
        x.fill(10, 20);
        Report.dueRun(x, 0, 0, DONE, 7);
        Report.dueRegisters(x, 10, 0, 20);
        Report.duePile(x);
    }

    // ---- promise 6

    private static void update() {
        Report.sentence("6: op not 0 to 3 answers BAD_ARG", () -> {
            Trial x = new Trial().put("n1 n1 n1 n1");
            for (int op : outside(0, 3)) {
                due("update(" + op + ", 0)", x.update(op, 0), BAD_ARG);
            }
            for (int op = 0; op <= 3; op++) {
                due("update(" + op + ", 0)", x.update(op, 0), op + 1);
            }
        });
        Report.sentence("6: r not 0 to 5 for 0 to 2 answers BAD_ARG", () -> {
            for (int op = 0; op <= 2; op++) {
                Trial x = repeated(new Trial(), "n1", 6);
                for (int r : outside(0, 5)) {
                    due("update(" + op + ", " + r + ")", x.update(op, r), BAD_ARG);
                }
                for (int r = 0; r <= 5; r++) {
                    due("update(" + op + ", " + r + ")", x.update(op, r), r + 1);
                }
            }
        });
        Report.sentence("6: check X (r does not matter)", () -> {
            for (int r : FAR) {
                due("update(3, " + r + ")", new Trial().put("n1").update(CHECK, r), 1);
                due("update(3, " + r + ") of none", new Trial().update(CHECK, r), TOO_FEW);
                due("update(3, " + r + "), full", fullOfStatements().update(CHECK, r), FULL);
            }
        });
        Report.sentence("6: takes an expression X off its stack", () -> {
            Trial x = new Trial().put("n7 n5");
            due("update", x.update(0, 0), 1);
            due("one is left", x.number(0), 2);
            x.put("+");
            due("update", x.update(0, 1), 2);
            due("none is left", x.number(0), 1);
            x.put("check seq seq");
            due("procedure", x.procedure(0), 5);
            Report.dueRun(x, 0, 0, FAILED, 3);
            x.make(0, "n7 n5 add0 add1 seq");
            Report.dueRun(x, 0, 0, DONE, 2);
            Report.dueRegisters(x, 5, 7);
        });
        Report.sentence("6: no expression answers TOO_FEW", () -> {
            for (int op = 0; op <= 3; op++) {
                due("none was made", new Trial().update(op, 0), TOO_FEW);
                due("all were taken", new Trial().put("n1 check").update(op, 0), TOO_FEW);
                due("statements don't count", new Trial().put("skip skip").update(op, 0), TOO_FEW);
                due("one is there", new Trial().put("n1").update(op, 0), 1);
            }
        });
        Report.sentence("6: op is 0 to 2 and X has register r answers BAD_SELF", CallsTest::selfUse);
        Report.sentence("6: BAD_ARG is tested before FULL, TOO_FEW and BAD_SELF", () -> {
            int[][] bad = {{-1, 0}, {4, 0}, {0, -1}, {1, -1}, {2, -1}, {0, 6}, {1, 6}, {2, 6}};
            for (int[] b : bad) {
                due("update, no expression", new Trial().update(b[0], b[1]), BAD_ARG);
                due("update, full", fullOfStatements().put("n1").update(b[0], b[1]), BAD_ARG);
                due("update, full, no expression", fullOfStatements().update(b[0], b[1]), BAD_ARG);
                due("update, self", new Trial().put("r0").update(b[0], b[1]), BAD_ARG);
            }
        });
        Report.sentence("6: FULL is tested before TOO_FEW and BAD_SELF", () -> {
            for (int op = 0; op <= 3; op++) {
                due("update, full, no expression", fullOfStatements().update(op, 0), FULL);
                due("update, full, self", fullOfStatements().put("r0").update(op, 0), FULL);
                due("update, full", fullOfStatements().put("n1").update(op, 0), FULL);
            }
        });
        Report.sentence("6: otherwise the number on the statement stack", () -> {
            Trial x = repeated(new Trial(), "n1", 20);
            for (int i = 1; i <= 16; i++) {
                due("update " + i, x.update(i % 4, i % 6), i);
            }
            due("after others were taken", new Trial().put("n1 skip skip skip seq").update(0, 0), 3);
        });
    }

    private static void selfUse() {
        for (int op = 0; op <= 2; op++) {
            for (int r = 0; r <= 5; r++) {
                for (String words : withRegister("r" + r)) {
                    due(words + " for " + r, new Trial().put(words).update(op, r), BAD_SELF);
                    due("check of " + words, new Trial().put(words).update(CHECK, r), 1);
                    for (int other = 0; other <= 5; other++) {
                        if (other != r) {
                            due(words + " for " + other, new Trial().put(words).update(op, other), 1);
                        }
                    }
                }
                due("below X", new Trial().put("r" + r + " n1").update(op, r), 1);
                due("in an X before", new Trial().put("r" + r + " check n1").update(op, r), 2);
                Trial x = new Trial().put("r" + r);
                x.discard();
                due("in what was discarded", x.put("n1").update(op, r), 1);
            }
        }
        due("two registers, the one", new Trial().put("r2 r3 +").update(0, 2), BAD_SELF);
        due("two registers, the other", new Trial().put("r2 r3 +").update(0, 3), BAD_SELF);
        due("two registers, neither", new Trial().put("r2 r3 +").update(0, 4), 1);
    }

    /** Expressions with this register, even where it makes no difference to the value. */
    private static String[] withRegister(String register) {
        return new String[] {
            register,
            register + " n1 +",
            "n1 " + register + " -",
            register + " n0 *",
            "n0 " + register + " &",
            register + " " + register + " ^",
            register + " " + register + " =",
            "n1 n2 n3 " + register + " < + *",
            register + " n3 + n2 * n1 <",
            "n1 n2 + " + register + " n3 + * n4 -",
        };
    }

    // ---- promises 7 and 8

    private static void seq() {
        Report.sentence("7: takes the statements A and, on top of it, B off and pushes seq", () -> {
            Trial x = new Trial().put("n1 add2 n3 add0 swap01");
            due("seq of three", x.seq(), 2);
            due("seq of two", x.seq(), 1);
            due("procedure", x.procedure(0), 5);
            x.fill(10, 20);
            Report.dueRun(x, 0, 0, DONE, 3);
            Report.dueRegisters(x, 20, 13, 1);
        });
        Report.sentence("7: fewer than two statements answers TOO_FEW", () -> {
            due("of none", new Trial().seq(), TOO_FEW);
            due("of one", new Trial().put("skip").seq(), TOO_FEW);
            due("of two", new Trial().put("skip skip").seq(), 1);
            due("of one that is a seq", new Trial().put("skip skip seq").seq(), TOO_FEW);
            due("expressions don't count", new Trial().put("n1 n1 skip").seq(), TOO_FEW);
            Trial x = new Trial().put("skip skip");
            x.discard();
            due("of what was discarded", x.seq(), TOO_FEW);
            due("of what became a procedure", new Trial().make(0, "skip").put("skip").seq(), TOO_FEW);
        });
        Report.sentence("7: FULL as for simple", () -> {
            due("of two", fullWithStatements(2).seq(), FULL);
            due("of four", fullWithStatements(4).seq(), FULL);
            due("of 16", fullOfStatements().seq(), FULL);
            due("15 were made", repeated(new Trial(), "skip", 15).seq(), 14);
        });
        Report.sentence("7: otherwise the number on the statement stack", () -> {
            Trial x = repeated(new Trial(), "skip", 8).put("n1 n1 n1");
            for (int left = 7; left >= 1; left--) {
                due("seq", x.seq(), left);
            }
            due("seq of what is left", x.seq(), TOO_FEW);
        });
    }

    /** 16 were made, and so many of them, an even number, are still there. */
    private static Trial fullWithStatements(int there) {
        int joined = (16 - there) / 2;
        Trial x = repeated(new Trial(), "skip", joined + 1);
        return repeated(repeated(x, "seq", joined), "skip", there - 1);
    }

    private static void tested() {
        Report.sentence("8: op not 0 or 1 answers BAD_ARG", () -> {
            Trial x = new Trial().put("n1 n1 skip skip");
            for (int op : outside(0, 1)) {
                due("tested(" + op + ")", x.tested(op), BAD_ARG);
            }
            due("tested(0)", new Trial().put("n1 n1 skip skip").tested(0), 1);
            due("tested(1)", new Trial().put("n1 n1 skip skip").tested(1), 1);
        });
        Report.sentence("8: fewer than two statements or fewer than two expressions answers TOO_FEW", () -> {
            for (int op = 0; op <= 1; op++) {
                for (int statements = 0; statements <= 3; statements++) {
                    for (int expressions = 0; expressions <= 3; expressions++) {
                        Trial x = repeated(new Trial(), "skip", statements);
                        repeated(x, "n1", expressions);
                        boolean few = statements < 2 || expressions < 2;
                        String of = " of " + statements + " and " + expressions;
                        due("tested(" + op + ")" + of, x.tested(op), few ? TOO_FEW : statements - 1);
                    }
                }
            }
        });
        Report.sentence("8: takes A, B, X and Y off, the later ones on top", () -> {
            // Below them stand another statement and another expression, which stay.
            Trial x = new Trial().put("n50 add4 n9 r0 r1 n1 add2 n1 add3");
            due("tested(0)", x.tested(0), 2);
            due("one expression is left", x.update(0, 5), 3);
            x.put("seq seq");
            due("procedure", x.procedure(0), 7);
            x.fill(1, 1);
            Report.dueRun(x, 0, 0, DONE, 3);
            Report.dueRegisters(x, 1, 1, 1, 0, 50, 9);
            x.fill(0, 0, 0, 0, 0, 0);
            Report.dueRun(x, 0, 0, DONE, 3);
            Report.dueRegisters(x, 0, 0, 0, 1, 50, 9);
        });
        Report.sentence("8: by op, 0: if, 1: loop", () -> {
            // With X not true the if does B and the loop fails.
            Trial x = new Trial().make(0, "n0 n0 skip n1 add0 if").make(1, "n0 n0 skip n1 add0 loop");
            Report.dueRun(x, 0, 0, DONE, 1);
            Report.dueRun(x, 1, 0, FAILED, 0);
            Report.dueRegisters(x, 1);
        });
        Report.sentence("8: BAD_ARG is tested before FULL and TOO_FEW", () -> {
            int[] bad = {-1, 2};
            for (int op : bad) {
                due("tested, none", new Trial().tested(op), BAD_ARG);
                due("tested, no expression", new Trial().put("skip skip").tested(op), BAD_ARG);
                due("tested, no statement", new Trial().put("n1 n1").tested(op), BAD_ARG);
                due("tested, full", fullOfStatements().put("n1 n1").tested(op), BAD_ARG);
                due("tested, full, no expression", fullOfStatements().tested(op), BAD_ARG);
            }
        });
        Report.sentence("8: FULL is tested before TOO_FEW", () -> {
            for (int op = 0; op <= 1; op++) {
                due("tested, full, no expression", fullOfStatements().tested(op), FULL);
                due("tested, full, one expression", fullOfStatements().put("n1").tested(op), FULL);
                due("tested, full", fullOfStatements().put("n1 n1").tested(op), FULL);
                due("tested, full, two statements", fullWithStatements(2).tested(op), FULL);
            }
        });
        Report.sentence("8: otherwise the number on the statement stack", () -> {
            for (int op = 0; op <= 1; op++) {
                Trial x = repeated(repeated(new Trial(), "skip", 8), "n1", 18);
                for (int left = 7; left >= 1; left--) {
                    due("tested", x.tested(op), left);
                }
                due("tested of what is left", x.tested(op), TOO_FEW);
                due("the expressions that are left, and one", x.number(1), 5);
            }
        });
    }

    private static void statementLimit() {
        Report.sentence("5 to 8: 16 statements were made answers FULL", () -> {
            dueStatementsFull(repeated(new Trial(), "skip", 16).put("n1 n1"));
            dueStatementsFull(repeated(new Trial(), "n1 check", 16).put("n1 n1"));
            dueStatementsFull(repeated(new Trial().put("skip skip"), "skip seq", 7).put("n1 n1"));
            dueStatementsFull(repeated(new Trial().put("skip skip"), "n1 n1 skip if", 7).put("n1 n1"));
            dueStatementsFull(repeated(new Trial().put("skip skip"), "n1 n1 skip loop", 7).put("n1 n1"));
            dueStatementsFull(fullOfStatements());
            dueRoomForStatements(repeated(new Trial(), "skip", 15).put("n1 n1"), 1);
            dueRoomForStatements(repeated(new Trial(), "n1 check", 15).put("n1 n1"), 1);
            dueRoomForStatements(repeated(new Trial().put("skip"), "skip seq", 7).put("n1 n1"), 1);
        });
        Report.sentence("5 to 8: simple, update, seq and tested may each be the 16th", () -> {
            for (int op = 0; op <= 5; op++) {
                due("simple(" + op + ")", repeated(new Trial(), "skip", 15).simple(op, 0, 0), 16);
            }
            for (int op = 0; op <= 3; op++) {
                due("update(" + op + ")", repeated(new Trial(), "skip", 15).put("n1").update(op, 0), 16);
            }
            due("seq", repeated(new Trial(), "skip", 15).seq(), 14);
            due("tested(0)", repeated(new Trial(), "skip", 15).put("n1 n1").tested(0), 14);
            due("tested(1)", repeated(new Trial(), "skip", 15).put("n1 n1").tested(1), 14);
        });
        Report.sentence("5 to 8: those that were taken off were made as well", () -> {
            dueRoomForStatements(new Trial().put("skip skip seq"), 13);
            dueRoomForStatements(new Trial().put("n1 n1 skip skip if"), 13);
            dueRoomForStatements(new Trial().put("n1 n1 skip skip loop"), 13);
        });
        Report.sentence("5 to 8: since the stacks were last emptied by a call of discard", () -> {
            Trial x = fullOfStatements();
            x.discard();
            dueRoomForStatements(x, 16);
            x = new Trial().put("skip skip seq");
            x.discard();
            x.put("skip");
            dueRoomForStatements(x, 15);
        });
        Report.sentence("5 to 8: since the stacks were last emptied by a call of procedure", () -> {
            for (int p = 0; p < 3; p++) {
                dueRoomForStatements(new Trial().make(p, "skip skip seq"), 16);
                dueRoomForStatements(repeated(new Trial().put("skip"), "skip seq", 7).become(p), 16);
            }
        });
        Report.sentence("5 to 8: nothing else empties the stacks", () -> {
            Trial x = new Trial().put("skip skip");
            due("procedure, refused", x.procedure(0), TOO_FEW);
            due("procedure, refused", x.procedure(3), BAD_ARG);
            x.run(0, 0);
            x.load(0, 1);
            dueRoomForStatements(x, 14);
        });
        Report.sentence("5 to 8: the limit of expressions is not that of statements", () -> {
            Trial x = fullOfExpressions();
            due("simple", x.simple(0, 0, 0), 1);
            due("update", x.update(0, 0), 2);
            due("seq", x.seq(), 1);
            x.put("skip");
            due("tested", x.tested(0), 1);
            dueRoomForStatements(x, 11);
        });
    }

    // ---- promises 9 and 10

    private static void discard() {
        Report.sentence("9: answers how many statements there were on the one", () -> {
            for (int many = 0; many <= 16; many++) {
                due("discard of " + many, repeated(new Trial(), "skip", many).discard(), many);
            }
            due("discard of expressions alone", new Trial().put("n1 n1 n1").discard(), 0);
            due("discard of both", new Trial().put("n1 n1 n1 skip skip").discard(), 2);
            due("discard of a seq", new Trial().put("skip skip seq").discard(), 1);
            due("discard, full", fullWithStatements(2).discard(), 2);
            Trial x = new Trial().put("skip");
            due("discard", x.discard(), 1);
            due("discard again", x.discard(), 0);
        });
        Report.sentence("9: empties both stacks", () -> {
            String[] before = {"n1", "skip", "n1 n1 skip skip", "skip skip seq n1 n1 +"};
            for (String words : before) {
                Trial x = new Trial().put(words);
                x.discard();
                dueEmptyStacks(x);
            }
            Trial x = repeated(fullOfStatements(), "n1", 24);
            x.discard();
            dueEmptyStacks(x);
        });
        Report.sentence("9: nothing but the stacks is changed", () -> {
            Trial x = new Trial().pileUp(8, 9).make(1, "n0 check").make(2, "n4 add5").fill(1, 2, 3, 4, 5, 6);
            x.run(1, 0);
            x.put("n1 n2 skip skip");
            x.discard();
            due("outcome", x.outcome(), FAILED);
            due("steps", x.steps(), 1);
            Report.dueRegisters(x, 1, 2, 3, 4, 5, 6);
            Report.duePile(x, 9, 8);
            Report.dueRun(x, 1, 0, FAILED, 1);
            Report.dueRun(x, 0, 0, DONE, 1);
            Report.dueRun(x, 2, 0, DONE, 1);
            Report.dueRegisters(x, 0, 2, 3, 4, 5, 10);
            Report.duePile(x, 1, 9, 8);
        });
    }

    private static void dueEmptyStacks(Trial x) {
        due("apply", x.apply(0), TOO_FEW);
        due("update", x.update(CHECK, 0), TOO_FEW);
        due("seq", x.seq(), TOO_FEW);
        due("procedure", x.procedure(0), TOO_FEW);
        due("number", x.number(1), 1);
        due("simple", x.simple(0, 0, 0), 1);
        due("discard", x.discard(), 1);
    }

    private static void procedure() {
        Report.sentence("10: p not 0 to 2 answers BAD_ARG", () -> {
            Trial x = new Trial().put("skip");
            for (int p : outside(0, 2)) {
                due("procedure(" + p + ")", x.procedure(p), BAD_ARG);
            }
            for (int p = 0; p <= 2; p++) {
                due("procedure(" + p + ")", new Trial().put("skip").procedure(p), 1);
            }
        });
        Report.sentence("10: not just one statement, or an expression on the stack, answers TOO_FEW", () -> {
            for (int statements = 0; statements <= 16; statements++) {
                int[] some = {0, 1, 2, 24};
                for (int expressions : some) {
                    Trial x = repeated(new Trial(), "skip", statements);
                    repeated(x, "n1", expressions);
                    String of = "procedure of " + statements + " and " + expressions;
                    due(of, x.procedure(0), statements == 1 && expressions == 0 ? 1 : TOO_FEW);
                }
            }
        });
        Report.sentence("10: BAD_ARG is tested before TOO_FEW", () -> {
            int[] bad = {-1, 3};
            for (int p : bad) {
                due("of none", new Trial().procedure(p), BAD_ARG);
                due("of two", new Trial().put("skip skip").procedure(p), BAD_ARG);
                due("with an expression", new Trial().put("skip n1").procedure(p), BAD_ARG);
            }
        });
        Report.sentence("10: the one statement on the stack becomes procedure p", () -> {
            for (int p = 0; p <= 2; p++) {
                Trial x = new Trial().make(0, "n10 add0").make(1, "n20 add1").make(2, "n30 add2");
                x.make(p, "n1 add3 n2 add4 seq");
                for (int q = 0; q <= 2; q++) {
                    Report.dueRun(x, q, 0, DONE, q == p ? 2 : 1);
                }
                Report.dueRegisters(x, p == 0 ? 0 : 10, p == 1 ? 0 : 20, p == 2 ? 0 : 30, 1, 2);
            }
        });
        Report.sentence("10: call and back find what the procedure is now", () -> {
            Trial x = new Trial().make(1, "call0 call0 seq back0 seq").make(0, "n3 add0");
            Report.dueRun(x, 1, 0, DONE, 6);
            Report.dueRegisters(x, 3);
            x.make(0, "n5 add1");
            Report.dueRun(x, 1, 0, DONE, 6);
            Report.dueRegisters(x, 3, 5);
        });
        Report.sentence("10: what is put together afterwards does not change it", () -> {
            Trial x = new Trial().make(0, "r1 n2 * add0 push1 seq").fill(1, 7);
            repeated(x, "r5", 24);
            repeated(x, "check", 16);
            Report.dueRun(x, 0, 0, DONE, 2);
            x.discard();
            x.make(1, "n0 check").make(2, "n0 check");
            x.load(1, 5);
            Report.dueRun(x, 0, 0, DONE, 2);
            Report.dueRegisters(x, 1 + 14 + 10);
            Report.duePile(x, 5, 7);
        });
        Report.sentence("10: both stacks are empty afterwards", () -> {
            for (int p = 0; p <= 2; p++) {
                dueEmptyStacks(new Trial().make(p, "skip"));
                dueEmptyStacks(new Trial().make(p, "n1 n1 n1 check n1 add0 if"));
                dueEmptyStacks(repeated(new Trial().put("skip"), "skip seq", 7).become(p));
            }
        });
        Report.sentence("10: otherwise how many statements were made for it", CallsTest::statementsMadeForIt);
    }

    private static void statementsMadeForIt() {
        for (int joined = 0; joined <= 7; joined++) {
            Trial x = repeated(new Trial().put("skip"), "skip seq", joined);
            due("procedure with " + joined + " seq", x.procedure(joined % 3), 2 * joined + 1);
        }
        due("expressions don't count", new Trial().put("n1 n1 + n1 + check").procedure(0), 1);
        due("if counts once", new Trial().put("n1 n1 skip skip if").procedure(0), 3);
        due("loop counts once", new Trial().put("n1 n1 skip skip loop").procedure(0), 3);
        Trial x = new Trial().put("skip skip skip");
        x.discard();
        due("not those that were discarded", x.put("skip").procedure(0), 1);
        x.make(1, "skip skip seq");
        due("not those of another procedure", x.put("skip").procedure(0), 1);
        x.put("skip");
        x.seq();
        x.simple(6, 0, 0);
        x.update(0, 0);
        x.tested(0);
        due("not those that were refused", x.procedure(0), 1);
    }

    // ---- promises 11 and 12

    private static void load() {
        Report.sentence("11: BAD_ARG if r is not 0 to 5, else 0", () -> {
            Trial x = new Trial();
            for (int r : outside(0, 5)) {
                due("load(" + r + ", 1)", x.load(r, 1), BAD_ARG);
            }
            Report.dueRegisters(x);
            for (int r = 0; r <= 5; r++) {
                due("load(" + r + ", 1)", x.load(r, 1), 0);
            }
        });
        Report.sentence("11: register r becomes v", () -> {
            for (int v : FAR) {
                for (int r = 0; r <= 5; r++) {
                    Trial x = new Trial().fill(11, 12, 13, 14, 15, 16);
                    due("load(" + r + ", " + v + ")", x.load(r, v), 0);
                    for (int other = 0; other <= 5; other++) {
                        due("look(" + other + ")", x.look(other), other == r ? v : 11 + other);
                    }
                }
            }
        });
    }

    private static void run() {
        Report.sentence("12: BAD_ARG if p is not 0 to 2", () -> {
            for (int p : outside(0, 2)) {
                Trial x = new Trial();
                due("run(" + p + ", 0)", x.run(p, 0), BAD_ARG);
                due("run(" + p + ", 1)", x.run(p, 1), BAD_ARG);
            }
            for (int p = 0; p <= 2; p++) {
                due("run(" + p + ", 0)", new Trial().run(p, 0), DONE);
                due("run(" + p + ", 1)", new Trial().run(p, 1), DONE);
            }
        });
        Report.sentence("12: forwards (backwards = 0) or backwards (else)", () -> {
            for (int backwards : FAR) {
                Trial x = new Trial().make(1, "n3 add0");
                Report.dueRun(x, 1, backwards, DONE, 1);
                Report.dueRegisters(x, backwards == 0 ? 3 : -3);
            }
        });
        Report.sentence("12: runs procedure p", () -> {
            for (int p = 0; p <= 2; p++) {
                Trial x = new Trial().make(0, "n1 add0").make(1, "n1 add1").make(2, "n1 add2");
                Report.dueRun(x, p, 0, DONE, 1);
                Report.dueRegisters(x, p == 0 ? 1 : 0, p == 1 ? 1 : 0, p == 2 ? 1 : 0);
            }
        });
        Report.sentence("12: a run has nothing to do with what is on the stacks", () -> {
            Trial x = new Trial().make(0, "n1 add0").make(1, "n0 check").put("n4 n5 n6 add0 skip");
            Report.dueRun(x, 0, 0, DONE, 1);
            Report.dueRun(x, 1, 0, FAILED, 1);
            Report.dueRegisters(x, 1);
            due("the expressions are there", x.number(7), 3);
            due("the statements are there", x.simple(0, 0, 0), 3);
            due("discard", x.discard(), 3);
            Report.dueRun(repeated(fullOfStatements(), "n1", 24), 0, 0, DONE, 1);
        });
    }

    // ---- promises 13 and 17

    /** Procedure 0 ends DONE, or FAILED where register 3 is 0; 1 counts, and 2 goes down. */
    private static Trial ofAllEndings() {
        return new Trial().make(0, "skip r3 check seq skip seq").make(1, "r4 n0 = r4 r5 = skip n1 add4 loop")
            .make(2, "call2");
    }

    private static int endingOf(Trial x, int ending, int way) {
        x.load(3, ending == DONE ? 1 : 0);
        x.load(4, way == 0 ? 0 : 200);
        x.load(5, 200);
        return x.run(ending == TIRED ? 1 : ending == DEEP ? 2 : 0, way);
    }

    private static int stepsOf(int ending) {
        return ending == DONE ? 3 : ending == FAILED ? 2 : ending == TIRED ? 300 : 7;
    }

    private static void outcomeAndSteps() {
        Report.sentence("13: NONE if there was none; 17: 0 if there was none", () -> {
            Trial x = new Trial().make(0, "n1 add0").fill(1, 2, 3);
            x.put("n1 n2 skip");
            x.discard();
            due("outcome", x.outcome(), NONE);
            due("steps", x.steps(), 0);
            x.run(-1, 0);
            x.run(3, 1);
            due("outcome after refused runs", x.outcome(), NONE);
            due("steps after refused runs", x.steps(), 0);
        });
        Report.sentence("13: how the last run ended; 17: how many steps the last run made", () -> {
            for (int first = 0; first <= 3; first++) {
                for (int second = 0; second <= 3; second++) {
                    dueInTurn(first, 0, second, 0);
                    dueInTurn(first, 0, second, 1);
                    dueInTurn(first, 1, second, 0);
                    dueInTurn(first, 1, second, 1);
                }
            }
        });
        Report.sentence("13, 17: no call but run changes them", () -> {
            for (int ending = 0; ending <= 3; ending++) {
                Trial x = ofAllEndings();
                endingOf(x, ending, 0);
                x.put("n1 r1 + add0 skip seq");
                x.become(0).make(1, "skip");
                x.fill(7, 7, 7);
                x.put("n1 skip");
                x.discard();
                x.look(0);
                x.pile();
                x.onPile(0);
                due("outcome", x.outcome(), ending);
                due("steps", x.steps(), stepsOf(ending));
            }
        });
    }

    private static void dueInTurn(int first, int firstWay, int second, int secondWay) {
        Trial x = ofAllEndings();
        due("run", endingOf(x, first, firstWay), first);
        due("outcome", x.outcome(), first);
        due("steps", x.steps(), stepsOf(first));
        due("run after it", endingOf(x, second, secondWay), second);
        due("outcome after it", x.outcome(), second);
        due("steps after it", x.steps(), stepsOf(second));
        due("outcome again", x.outcome(), second);
        due("steps again", x.steps(), stepsOf(second));
    }

    // ---- promises 14 to 16

    private static void looking() {
        Report.sentence("14: the number in register r; 0 if r is not 0 to 5", () -> {
            Trial x = new Trial().fill(MIN, -2, 3, 4, 5, MAX);
            Report.dueRegisters(x, MIN, -2, 3, 4, 5, MAX);
            for (int r : outside(0, 5)) {
                due("look(" + r + ")", x.look(r), 0);
            }
            Report.dueRegisters(x, MIN, -2, 3, 4, 5, MAX);
        });
        Report.sentence("15: how many numbers are on the pile", () -> {
            Trial x = new Trial().make(0, "push0");
            for (int i = 0; i <= 12; i++) {
                due("pile", x.pile(), i);
                x.run(0, 0);
            }
            due("pile, full", x.pile(), 12);
            for (int i = 11; i >= 0; i--) {
                x.run(0, 1);
                due("pile", x.pile(), i);
            }
            x.run(0, 1);
            due("pile, empty", x.pile(), 0);
        });
        Report.sentence("16: the number on the pile with i above it; 0 if there is none", () -> {
            int[] numbers = {MIN, MAX, -1, 4, 5, 6, 7, 8, 9, 10, 11, 12};
            for (int many = 0; many <= 12; many++) {
                Trial x = new Trial().pileUp(java.util.Arrays.copyOf(numbers, many));
                for (int i = 0; i < many; i++) {
                    due("onPile(" + i + ") of " + many, x.onPile(i), numbers[many - 1 - i]);
                }
                for (int i : outside(0, many - 1)) {
                    due("onPile(" + i + ") of " + many, x.onPile(i), 0);
                }
                due("pile", x.pile(), many);
            }
        });
        Report.sentence("16: what has gone from the pile is not seen any more", () -> {
            Trial x = new Trial().pileUp(7, 8, 9);
            x.load(0, 0);
            x.run(0, 1);
            Report.duePile(x, 8, 7);
        });
    }

    // ---- promise 18

    private static void orderAndLimits() {
        Report.sentence("18: seq tests FULL before TOO_FEW", () -> {
            // When 16 were made an even number of them is there, and one at least: what joins takes
            // two for one. So these are the nearest that can be asked for.
            due("the 16th, of one", repeated(new Trial().put("skip"), "skip seq", 7).seq(), TOO_FEW);
            due("the 17th, of two", fullWithStatements(2).seq(), FULL);
            due("the 17th, of 16", fullOfStatements().seq(), FULL);
        });
        Report.sentence("18: run that answers BAD_ARG leaves outcome and steps as they were", () -> {
            for (int ending = 0; ending <= 3; ending++) {
                Trial x = ofAllEndings();
                endingOf(x, ending, ending % 2);
                for (int p : outside(0, 2)) {
                    due("run(" + p + ")", x.run(p, p & 1), BAD_ARG);
                    due("outcome", x.outcome(), ending);
                    due("steps", x.steps(), stepsOf(ending));
                }
            }
        });
    }

    // ---- what it is

    private static void lifeOfAnObject() {
        Report.sentence("an object is used for at most 512 calls: the 512th is answered as the first", () -> {
            Trial x = new Trial();
            for (int i = 0; i < 170; i++) {
                x.number(i % 101);
                x.update(0, i % 6);
                due("procedure " + i, x.procedure(i % 3), 1);
            }
            due("run", x.run(169 % 3, 0), DONE);
            due("the 512th call", x.look(169 % 6), 169 % 101);
            due("calls left", x.callsLeft(), 0);

            x = new Trial();
            for (int i = 1; i <= 21; i++) {
                repeated(x, "n1", 23);
                due("discard " + i, x.discard(), 0);
            }
            x.make(0, "n1 add0");
            repeated(x, "skip", 4);
            due("the 512th call", x.discard(), 4);
            due("calls left", x.callsLeft(), 0);

            x = new Trial().make(0, "push0");
            for (int i = 0; i < 509; i++) {
                due("run", x.run(0, 0), i < 12 ? DONE : FAILED);
            }
            due("the 512th call", x.pile(), 12);
            due("calls left", x.callsLeft(), 0);
        });
    }
}
