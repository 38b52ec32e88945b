import java.util.ArrayList;
import java.util.List;
import java.util.function.Supplier;

/**
 * 'No call ever throws. A refused call answers the code named and changes nothing.': of two objects
 * with the same calls behind them one is asked what must be refused; afterwards both must answer
 * the same to rows of calls that show all there is.
 */
public final class RefusalsTest {
    private static final int BAD_ARG = BackAndForth.BAD_ARG;
    private static final int FULL = BackAndForth.FULL;
    private static final int TOO_FEW = BackAndForth.TOO_FEW;
    private static final int BAD_SELF = BackAndForth.BAD_SELF;

    private static final int[] ANY = {
        Integer.MIN_VALUE, Integer.MIN_VALUE + 1, -101, -100, -2, -1, 0, 1, 2, 3, 4, 5, 6, 7, 12, 13, 16, 24,
        100, 101, 256, Integer.MAX_VALUE - 1, Integer.MAX_VALUE,
    };

    private static final int[] FEWER = {Integer.MIN_VALUE, -1, 0, 2, 3, 5, 6, 99, Integer.MAX_VALUE};

    /** A call that can be refused, by its name and its arguments. */
    private record Call(String name, int... args) {
        int on(Trial x) {
            switch (name) {
                case "number": return x.number(args[0]);
                case "register": return x.register(args[0]);
                case "apply": return x.apply(args[0]);
                case "simple": return x.simple(args[0], args[1], args[2]);
                case "update": return x.update(args[0], args[1]);
                case "seq": return x.seq();
                case "tested": return x.tested(args[0]);
                case "procedure": return x.procedure(args[0]);
                case "load": return x.load(args[0], args[1]);
                case "run": return x.run(args[0], args[1]);
                case "look": return x.look(args[0]);
                case "onPile": return x.onPile(args[0]);
                default: throw new IllegalArgumentException("the test has an unknown call: " + name);
            }
        }

        @Override
        public String toString() {
            return name + java.util.Arrays.toString(args);
        }
    }

    public static void main(String[] args) {
        badArguments();
        full();
        tooFew();
        badSelf();
        noThrow();
        noThrowLater();
        Report.end();
    }

    // ---- the states in which calls are refused

    /** Registers, pile, procedures and a last run that are not those of a new object. */
    private static Trial used() {
        Trial x = new Trial().pileUp(70, 80, 90).make(0, "r1 n3 * add0 push2 seq").make(1, "n5 add3 n0 check seq")
            .make(2, "call0 back0 seq skip seq").fill(1, 2, 3, 4, 5, 6);
        x.run(1, 0);
        return x;
    }

    private static Trial midway() {
        return used().put("n3 r1 n4 r2 + push1 swap02 n9 sub4");
    }

    private static Trial repeated(Trial x, String words, int times) {
        for (int i = 0; i < times; i++) {
            x.put(words);
        }
        return x;
    }

    private static Trial fullOfExpressions() {
        return repeated(used().put("push1 r0"), "r1 +", 11).put("r2");
    }

    private static Trial fullOfExpressionsWithOne() {
        return fullOfExpressions().put("check");
    }

    private static Trial fullOfExpressionsWithNone() {
        return fullOfExpressions().put("check check");
    }

    private static Trial fullOfStatements() {
        return repeated(used().put("r3 n2 push1"), "swap12 seq", 7).put("skip");
    }

    private static Trial fullOfStatementsWithOne() {
        return repeated(used().put("r3"), "skip", 16);
    }

    private static Trial fullOfStatementsAlone() {
        return repeated(used(), "skip", 16);
    }

    private static Trial fullOfBoth() {
        return repeated(repeated(used(), "skip", 16), "r4", 24);
    }

    private static Trial ready() {
        return used().put("push1 swap02 seq");
    }

    // ---- what shows all there is

    private static void observe(Trial x, List<Integer> seen) {
        seen.add(x.outcome());
        seen.add(x.steps());
        for (int r = 0; r < 6; r++) {
            seen.add(x.look(r));
        }
        seen.add(x.pile());
        for (int i = 0; i < 12; i++) {
            seen.add(x.onPile(i));
        }
    }

    private static void runAll(Trial x, List<Integer> seen) {
        observe(x, seen);
        for (int p = 0; p < 3; p++) {
            for (int way = 0; way < 2; way++) {
                x.load(2, 0);
                seen.add(x.run(p, way));
                observe(x, seen);
            }
        }
    }

    /** The stacks are drawn together to one statement, as far as they can be, and that is run. */
    private static void finishByTests(Trial x, List<Integer> seen) {
        for (int i = 0; i < 3; i++) {
            seen.add(x.tested(0));
        }
        finish(x, seen);
    }

    private static void finishByApply(Trial x, List<Integer> seen) {
        for (int i = 0; i < 25; i++) {
            seen.add(x.apply(1));
        }
        finish(x, seen);
    }

    private static void finish(Trial x, List<Integer> seen) {
        for (int i = 0; i < 25; i++) {
            seen.add(x.update(i % 3, 5));
        }
        for (int i = 0; i < 17; i++) {
            seen.add(x.seq());
        }
        seen.add(x.procedure(2));
        seen.add(x.discard());
        runAll(x, seen);
    }

    private static void fillUp(Trial x, List<Integer> seen) {
        for (int i = 0; i < 25; i++) {
            seen.add(x.number(1));
        }
        for (int i = 0; i < 17; i++) {
            seen.add(x.simple(0, 0, 0));
        }
        seen.add(x.discard());
        seen.add(x.discard());
        runAll(x, seen);
    }

    private static void dueUnchanged(String state, Supplier<Trial> made, Call call, int code) {
        dueSame(state, made, call, code, RefusalsTest::observe);
        dueSame(state, made, call, code, RefusalsTest::runAll);
        dueSame(state, made, call, code, RefusalsTest::finishByTests);
        dueSame(state, made, call, code, RefusalsTest::finishByApply);
        dueSame(state, made, call, code, RefusalsTest::fillUp);
    }

    private interface Shown {
        void by(Trial x, List<Integer> seen);
    }

    private static void dueSame(String state, Supplier<Trial> made, Call call, int code, Shown shown) {
        Trial asked = made.get();
        Trial twin = made.get();
        for (int i = 0; i < 3; i++) {
            Report.due(call + ", " + state, call.on(asked), code);
        }
        List<Integer> got = new ArrayList<>();
        List<Integer> want = new ArrayList<>();
        shown.by(asked, got);
        shown.by(twin, want);
        Report.must(call + ", " + state + ", changes nothing: then " + got + ", due is " + want, got.equals(want));
    }

    /** Each state and what must be answered there. */
    private static void everywhere(Call call, int code) {
        dueUnchanged("new", Trial::new, call, code);
        dueUnchanged("used", RefusalsTest::used, call, code);
        dueUnchanged("midway", RefusalsTest::midway, call, code);
        dueUnchanged("24 expressions made", RefusalsTest::fullOfExpressions, call, code);
        dueUnchanged("24 expressions made, none there", RefusalsTest::fullOfExpressionsWithNone, call, code);
        dueUnchanged("16 statements made", RefusalsTest::fullOfStatements, call, code);
        dueUnchanged("both made", RefusalsTest::fullOfBoth, call, code);
        dueUnchanged("ready", RefusalsTest::ready, call, code);
    }

    // ---- the refusals

    private static void badArguments() {
        int[] outside = {Integer.MIN_VALUE, -1, 6, Integer.MAX_VALUE};
        Report.sentence("number that answers BAD_ARG changes nothing", () -> {
            everywhere(new Call("number", -101), BAD_ARG);
            everywhere(new Call("number", 101), BAD_ARG);
        });
        Report.sentence("register that answers BAD_ARG changes nothing", () -> {
            for (int r : outside) {
                everywhere(new Call("register", r), BAD_ARG);
            }
        });
        Report.sentence("apply that answers BAD_ARG changes nothing", () -> {
            everywhere(new Call("apply", -1), BAD_ARG);
            everywhere(new Call("apply", 7), BAD_ARG);
        });
        Report.sentence("simple that answers BAD_ARG changes nothing", () -> {
            int[][] bad = {{-1, 0, 0}, {6, 0, 0}, {1, 6, 0}, {1, 0, 6}, {1, -1, 0}, {1, 0, -1}, {2, 6, 0}, {2, -1, 0},
                {3, 6, 0}, {3, -1, 0}, {4, 0, 3}, {4, 0, -1}, {5, 0, 3}, {5, 0, -1}};
            for (int[] args : bad) {
                everywhere(new Call("simple", args), BAD_ARG);
            }
        });
        Report.sentence("update that answers BAD_ARG changes nothing", () -> {
            int[][] bad = {{-1, 0}, {4, 0}, {0, 6}, {0, -1}, {1, 6}, {1, -1}, {2, 6}, {2, -1}};
            for (int[] args : bad) {
                everywhere(new Call("update", args), BAD_ARG);
            }
        });
        Report.sentence("tested that answers BAD_ARG changes nothing", () -> {
            everywhere(new Call("tested", -1), BAD_ARG);
            everywhere(new Call("tested", 2), BAD_ARG);
        });
        Report.sentence("procedure that answers BAD_ARG changes nothing", () -> {
            everywhere(new Call("procedure", -1), BAD_ARG);
            everywhere(new Call("procedure", 3), BAD_ARG);
        });
        Report.sentence("load that answers BAD_ARG changes nothing", () -> {
            for (int r : outside) {
                everywhere(new Call("load", r, 99), BAD_ARG);
            }
        });
        Report.sentence("run that answers BAD_ARG changes nothing", () -> {
            everywhere(new Call("run", -1, 0), BAD_ARG);
            everywhere(new Call("run", 3, 0), BAD_ARG);
            everywhere(new Call("run", 3, 1), BAD_ARG);
        });
        Report.sentence("look and onPile that find none change nothing", () -> {
            for (int r : outside) {
                everywhere(new Call("look", r), 0);
            }
            everywhere(new Call("onPile", -1), 0);
            everywhere(new Call("onPile", 3), 0);
            everywhere(new Call("onPile", 12), 0);
        });
    }

    private static void full() {
        Report.sentence("number, register and apply that answer FULL change nothing", () -> {
            Call[] calls = {new Call("number", 7), new Call("register", 3), new Call("apply", 1)};
            for (Call call : calls) {
                dueUnchanged("24 made", RefusalsTest::fullOfExpressions, call, FULL);
                dueUnchanged("24 made, one there", RefusalsTest::fullOfExpressionsWithOne, call, FULL);
                dueUnchanged("24 made, none there", RefusalsTest::fullOfExpressionsWithNone, call, FULL);
                dueUnchanged("both made", RefusalsTest::fullOfBoth, call, FULL);
            }
        });
        Report.sentence("simple, update, seq and tested that answer FULL change nothing", () -> {
            List<Call> calls = new ArrayList<>();
            for (int op = 0; op <= 5; op++) {
                calls.add(new Call("simple", op, 0, 0));
            }
            for (int op = 0; op <= 3; op++) {
                calls.add(new Call("update", op, 0));
                calls.add(new Call("update", op, 4));
            }
            calls.add(new Call("seq"));
            calls.add(new Call("tested", 0));
            calls.add(new Call("tested", 1));
            for (Call call : calls) {
                dueUnchanged("16 made", RefusalsTest::fullOfStatements, call, FULL);
                dueUnchanged("16 made, one expression", RefusalsTest::fullOfStatementsWithOne, call, FULL);
                dueUnchanged("16 made, no expression", RefusalsTest::fullOfStatementsAlone, call, FULL);
                dueUnchanged("both made", RefusalsTest::fullOfBoth, call, FULL);
            }
        });
    }

    private static void tooFew() {
        Report.sentence("apply that answers TOO_FEW changes nothing", () -> {
            for (int op = 0; op <= 6; op++) {
                Call call = new Call("apply", op);
                dueUnchanged("new", Trial::new, call, TOO_FEW);
                dueUnchanged("none", RefusalsTest::ready, call, TOO_FEW);
                dueUnchanged("one", () -> used().put("push1 r4"), call, TOO_FEW);
            }
        });
        Report.sentence("update that answers TOO_FEW changes nothing", () -> {
            for (int op = 0; op <= 3; op++) {
                Call call = new Call("update", op, 4);
                dueUnchanged("new", Trial::new, call, TOO_FEW);
                dueUnchanged("none", RefusalsTest::ready, call, TOO_FEW);
                dueUnchanged("24 made", RefusalsTest::fullOfExpressionsWithNone, call, TOO_FEW);
            }
        });
        Report.sentence("seq that answers TOO_FEW changes nothing", () -> {
            Call call = new Call("seq");
            dueUnchanged("new", Trial::new, call, TOO_FEW);
            dueUnchanged("one", RefusalsTest::ready, call, TOO_FEW);
            dueUnchanged("one, with expressions", () -> used().put("r1 r2 push1"), call, TOO_FEW);
            dueUnchanged("15 made", () -> repeated(used().put("push1"), "swap12 seq", 7), call, TOO_FEW);
        });
        Report.sentence("tested that answers TOO_FEW changes nothing", () -> {
            String[] few = {"r1", "r1 r2", "push1", "push1 r1", "push1 r1 r2", "push1 swap12", "push1 swap12 r1",
                "push1 n1 check r1 r2 r3 + +"};
            for (int op = 0; op <= 1; op++) {
                Call call = new Call("tested", op);
                dueUnchanged("new", Trial::new, call, TOO_FEW);
                for (String words : few) {
                    dueUnchanged(words, () -> used().put(words), call, TOO_FEW);
                }
            }
        });
        Report.sentence("procedure that answers TOO_FEW changes nothing", () -> {
            String[] few = {"r1", "push1 r1", "push1 r1 r2", "push1 swap12", "push1 swap12 r1", "push1 skip swap12"};
            for (int p = 0; p <= 2; p++) {
                Call call = new Call("procedure", p);
                dueUnchanged("new", Trial::new, call, TOO_FEW);
                dueUnchanged("used", RefusalsTest::used, call, TOO_FEW);
                dueUnchanged("full", RefusalsTest::fullOfBoth, call, TOO_FEW);
                dueUnchanged("16 made", RefusalsTest::fullOfStatements, call, TOO_FEW);
                for (String words : few) {
                    dueUnchanged(words, () -> used().put(words), call, TOO_FEW);
                }
            }
        });
    }

    private static void badSelf() {
        Report.sentence("update that answers BAD_SELF changes nothing: X stays where it is", () -> {
            for (int op = 0; op <= 2; op++) {
                for (int r = 0; r <= 4; r++) {
                    String words = "push1 n3 r" + r + " n2 *";
                    dueUnchanged(words, () -> used().put(words), new Call("update", op, r), BAD_SELF);
                }
                dueUnchanged("24 made", RefusalsTest::fullOfExpressions, new Call("update", op, 2), BAD_SELF);
                Trial x = new Trial().put("r0 n2 *");
                Report.due("update", x.update(op, 0), BAD_SELF);
                Report.due("the same X for another register", x.update(op, 1), 1);
                Report.due("procedure", x.procedure(0), 1);
                x.load(0, 21);
                Report.dueRun(x, 0, 0, BackAndForth.DONE, 1);
                Report.dueRegisters(x, 21, op == 1 ? -42 : 42);
            }
        });
    }

    // ---- no call ever throws

    private static void noThrow() {
        List<Supplier<Trial>> states = List.of(Trial::new, RefusalsTest::used, RefusalsTest::midway,
            RefusalsTest::fullOfExpressions, RefusalsTest::fullOfExpressionsWithNone,
            RefusalsTest::fullOfStatements, RefusalsTest::fullOfBoth, RefusalsTest::ready);
        String[] ofOne = {"number", "register", "apply", "tested", "procedure", "look", "onPile"};
        String[] ofTwo = {"update", "load", "run"};
        for (Supplier<Trial> state : states) {
            Report.sentence("no call ever throws, whatever its arguments", () -> {
                for (int first : ANY) {
                    for (String name : ofOne) {
                        thenUse(state.get(), new Call(name, first));
                    }
                    for (int second : ANY) {
                        for (String name : ofTwo) {
                            thenUse(state.get(), new Call(name, first, second));
                        }
                    }
                }
                for (int first : FEWER) {
                    for (int second : FEWER) {
                        for (int third : FEWER) {
                            thenUse(state.get(), new Call("simple", first, second, third));
                        }
                    }
                }
                for (int op = 0; op <= 5; op++) {
                    thenUse(state.get(), new Call("simple", op, 0, 0));
                }
                thenUse(state.get(), new Call("seq"));
            });
        }
    }

    /** What calls answer after the 512th is free, but no call may throw in any state. */
    private static void noThrowLater() {
        Report.sentence("no call ever throws, after the 512th as before", () -> {
            BackAndForth x = new BackAndForth();
            long row = 1;
            for (int i = 0; i < 200_000; i++) {
                row = row * 6364136223846793005L + 1442695040888963407L;
                callAny(x, (int) (row >>> 60), (int) (row >>> 40) % 7, (int) (row >>> 50) % 6, (int) (row >>> 55) % 5);
            }
        });
    }

    private static void callAny(BackAndForth x, int which, int op, int r, int n) {
        switch (which) {
            case 0 -> x.number(n);
            case 1 -> x.register(r);
            case 2 -> x.apply(op);
            case 3, 4 -> x.simple(op, r, n);
            case 5 -> x.update(op, r);
            case 6, 7 -> x.seq();
            case 8 -> x.tested(n);
            case 9 -> x.procedure(n);
            case 10 -> x.load(r, op);
            case 11 -> x.run(n, op & 1);
            case 12 -> x.look(r);
            case 13 -> x.onPile(r);
            case 14 -> x.pile();
            default -> x.discard();
        }
    }

    /** What was taken with odd arguments must not throw later either. */
    private static void thenUse(Trial x, Call call) {
        int answer = call.on(x);
        boolean counts = call.name().equals("load") || call.name().equals("look") || call.name().equals("onPile");
        Report.must(call + " answered " + answer, counts || answer >= BAD_SELF && answer <= 24);
        x.seq();
        x.procedure(1);
        x.run(1, 0);
        x.run(1, 1);
        x.discard();
        Report.must("outcome after " + call, x.outcome() >= 0 && x.outcome() <= 3);
    }
}
