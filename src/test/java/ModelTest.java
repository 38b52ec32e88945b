import java.util.ArrayDeque;
import java.util.ArrayList;
import java.util.Deque;
import java.util.List;

/**
 * Long runs of calls, chosen by a fixed row of numbers, on BackAndForth and on a second program
 * that is written by the document's words in another way: trees of objects, recursion, exceptions.
 */
public final class ModelTest {
    private static final int OBJECTS = 6000;
    private static final int CALLS = 512;

    private static long row = 20261115L;

    private static int upTo(int bound) {
        row = row * 6364136223846793005L + 1442695040888963407L;
        return (int) ((row >>> 33) % bound);
    }

    // ---- the second program

    private interface Value {
        int of(int[] registers);
    }

    private static final class Expression {
        final Value value;
        final boolean[] has = new boolean[6];

        Expression(Value value) {
            this.value = value;
        }
    }

    private static final class Ended extends Exception {
        private static final long serialVersionUID = 1L;
        final int how;

        Ended(int how) {
            super(null, null, false, false);
            this.how = how;
        }
    }

    private interface Statement {
        void go(Model m, boolean forwards) throws Ended;
    }

    private static final class Model {
        int[] registers = new int[6];
        List<Integer> pile = new ArrayList<>();
        Deque<Expression> expressions = new ArrayDeque<>();
        Deque<Statement> statements = new ArrayDeque<>();
        int expressionsMade;
        int statementsMade;
        Statement[] procedures = new Statement[3];
        int outcome = BackAndForth.NONE;
        int steps;
        int begun;

        Model() {
            for (int p = 0; p < 3; p++) {
                procedures[p] = (m, f) -> m.step();
            }
        }

        void step() throws Ended {
            if (steps == 300) {
                throw new Ended(BackAndForth.TIRED);
            }
            steps++;
        }

        void must(boolean holds) throws Ended {
            if (!holds) {
                throw new Ended(BackAndForth.FAILED);
            }
        }

        boolean truth(Expression e) {
            return e.value.of(registers) != 0;
        }

        int pushed(Expression e) {
            expressionsMade++;
            expressions.push(e);
            return expressions.size();
        }

        int pushed(Statement s) {
            statementsMade++;
            statements.push(s);
            return statements.size();
        }

        int number(int n) {
            if (n < -100 || n > 100) return -1;
            if (expressionsMade == 24) return -2;
            return pushed(new Expression(g -> n));
        }

        int register(int r) {
            if (r < 0 || r > 5) return -1;
            if (expressionsMade == 24) return -2;
            Expression e = new Expression(g -> g[r]);
            e.has[r] = true;
            return pushed(e);
        }

        int apply(int op) {
            if (op < 0 || op > 6) return -1;
            if (expressionsMade == 24) return -2;
            if (expressions.size() < 2) return -3;
            Expression y = expressions.pop();
            Expression x = expressions.pop();
            Expression e = new Expression(g -> {
                int a = x.value.of(g);
                int b = y.value.of(g);
                return switch (op) {
                    case 0 -> a + b;
                    case 1 -> a - b;
                    case 2 -> a * b;
                    case 3 -> a ^ b;
                    case 4 -> a & b;
                    case 5 -> a < b ? 1 : 0;
                    default -> a == b ? 1 : 0;
                };
            });
            for (int r = 0; r < 6; r++) {
                e.has[r] = x.has[r] || y.has[r];
            }
            return pushed(e);
        }

        void put(int r) throws Ended {
            must(pile.size() < 12);
            pile.add(registers[r]);
            registers[r] = 0;
        }

        void take(int r) throws Ended {
            must(!pile.isEmpty() && registers[r] == 0);
            registers[r] = pile.remove(pile.size() - 1);
        }

        void called(int p, boolean forwards) throws Ended {
            if (begun == 6) {
                throw new Ended(BackAndForth.DEEP);
            }
            begun++;
            procedures[p].go(this, forwards);
            begun--;
        }

        int simple(int op, int r, int n) {
            boolean goodR = r >= 0 && r <= 5;
            boolean goodN = n >= 0 && n <= (op == 1 ? 5 : 2);
            if (op < 0 || op > 5) return -1;
            if (op >= 1 && op <= 3 && !goodR) return -1;
            if ((op == 1 || op >= 4) && !goodN) return -1;
            if (statementsMade == 16) return -2;
            return pushed((Statement) (m, forwards) -> {
                m.step();
                switch (op) {
                    case 0 -> { }
                    case 1 -> {
                        int was = m.registers[r];
                        m.registers[r] = m.registers[n];
                        m.registers[n] = was;
                    }
                    case 2 -> {
                        if (forwards) m.put(r);
                        else m.take(r);
                    }
                    case 3 -> {
                        if (forwards) m.take(r);
                        else m.put(r);
                    }
                    case 4 -> m.called(n, forwards);
                    default -> m.called(n, !forwards);
                }
            });
        }

        int update(int op, int r) {
            if (op < 0 || op > 3) return -1;
            if (op < 3 && (r < 0 || r > 5)) return -1;
            if (statementsMade == 16) return -2;
            if (expressions.isEmpty()) return -3;
            if (op < 3 && expressions.peek().has[r]) return -5;
            Expression x = expressions.pop();
            return pushed((Statement) (m, forwards) -> {
                m.step();
                int v = x.value.of(m.registers);
                switch (op) {
                    case 0 -> m.registers[r] += forwards ? v : -v;
                    case 1 -> m.registers[r] -= forwards ? v : -v;
                    case 2 -> m.registers[r] ^= v;
                    default -> m.must(v != 0);
                }
            });
        }

        int seq() {
            if (statementsMade == 16) return -2;
            if (statements.size() < 2) return -3;
            Statement b = statements.pop();
            Statement a = statements.pop();
            return pushed((Statement) (m, forwards) -> {
                (forwards ? a : b).go(m, forwards);
                (forwards ? b : a).go(m, forwards);
            });
        }

        int tested(int op) {
            if (op < 0 || op > 1) return -1;
            if (statementsMade == 16) return -2;
            if (statements.size() < 2 || expressions.size() < 2) return -3;
            Statement b = statements.pop();
            Statement a = statements.pop();
            Expression y = expressions.pop();
            Expression x = expressions.pop();
            if (op == 0) {
                return pushed((Statement) (m, f) -> {
                    if (m.truth(f ? x : y)) {
                        a.go(m, f);
                        m.must(m.truth(f ? y : x));
                    } else {
                        b.go(m, f);
                        m.must(!m.truth(f ? y : x));
                    }
                });
            }
            return pushed((Statement) (m, f) -> {
                m.must(m.truth(f ? x : y));
                a.go(m, f);
                while (!m.truth(f ? y : x)) {
                    b.go(m, f);
                    m.must(!m.truth(f ? x : y));
                    a.go(m, f);
                }
            });
        }

        int discard() {
            int there = statements.size();
            statements.clear();
            expressions.clear();
            statementsMade = 0;
            expressionsMade = 0;
            return there;
        }

        int procedure(int p) {
            if (p < 0 || p > 2) return -1;
            if (statements.size() != 1 || !expressions.isEmpty()) return -3;
            int made = statementsMade;
            procedures[p] = statements.peek();
            discard();
            return made;
        }

        int load(int r, int v) {
            if (r < 0 || r > 5) return -1;
            registers[r] = v;
            return 0;
        }

        int run(int p, int backwards) {
            if (p < 0 || p > 2) return -1;
            int[] registersBefore = registers.clone();
            List<Integer> pileBefore = new ArrayList<>(pile);
            steps = 0;
            begun = 0;
            try {
                procedures[p].go(this, backwards == 0);
                outcome = BackAndForth.DONE;
            } catch (Ended e) {
                outcome = e.how;
                registers = registersBefore;
                pile = pileBefore;
            }
            return outcome;
        }

        int look(int r) {
            return r < 0 || r > 5 ? 0 : registers[r];
        }

        int onPile(int i) {
            return i < 0 || i >= pile.size() ? 0 : pile.get(pile.size() - 1 - i);
        }
    }

    // ---- the runs of calls

    private static int wrong = 0;
    private static final int[] seen = new int[4];
    private static final StringBuilder told = new StringBuilder();

    private static void due(String call, int got, int want) {
        told.append(call).append(" -> ").append(got).append('\n');
        if (got != want) {
            wrong++;
            System.out.println(told + "due is " + want);
        }
    }

    /** Mostly 0 to bound - 1, at times just beside it or far away. */
    private static int about(int bound) {
        int chance = upTo(60);
        if (chance == 0) return -1;
        if (chance == 1) return bound;
        if (chance == 2) return upTo(2) == 0 ? Integer.MIN_VALUE : Integer.MAX_VALUE;
        return upTo(bound);
    }

    private static int someNumber() {
        int chance = upTo(30);
        if (chance == 0) return upTo(2) == 0 ? -101 : 101;
        if (chance == 1) return upTo(201) - 100;
        return upTo(4) - 1;
    }

    private static int someLoad() {
        int chance = upTo(12);
        if (chance == 0) return (int) row;
        if (chance == 1) return upTo(2) == 0 ? Integer.MIN_VALUE : Integer.MAX_VALUE;
        return upTo(5) - 1;
    }

    private static void build(Trial x, Model m, int kind) {
        if (kind < 3) {
            int n = someNumber();
            due("number(" + n + ")", x.number(n), m.number(n));
        } else if (kind < 7) {
            int r = about(6);
            due("register(" + r + ")", x.register(r), m.register(r));
        } else if (kind < 10) {
            int op = about(7);
            due("apply(" + op + ")", x.apply(op), m.apply(op));
        } else if (kind < 14) {
            int op = about(6);
            int r = about(6);
            int n = about(op == 1 ? 6 : 3);
            due("simple(" + op + ", " + r + ", " + n + ")", x.simple(op, r, n), m.simple(op, r, n));
        } else if (kind < 18) {
            int op = about(4);
            int r = about(6);
            due("update(" + op + ", " + r + ")", x.update(op, r), m.update(op, r));
        } else if (kind < 20) {
            due("seq()", x.seq(), m.seq());
        } else {
            int op = about(2);
            due("tested(" + op + ")", x.tested(op), m.tested(op));
        }
    }

    /** X on the way in and Y on the way out of a loop that counts register r up to register s. */
    private static int countingTests(Trial x, Model m, int r, int s) {
        due("discard()", x.discard(), m.discard());
        due("register(" + r + ")", x.register(r), m.register(r));
        due("number(0)", x.number(0), m.number(0));
        due("apply(6)", x.apply(6), m.apply(6));
        due("register(" + r + ")", x.register(r), m.register(r));
        due("register(" + s + ")", x.register(s), m.register(s));
        due("apply(6)", x.apply(6), m.apply(6));
        return 7;
    }

    /** Such a loop comes by chance too seldom. What it does beside counting is left to chance. */
    private static int countingLoop(Trial x, Model m) {
        int r = upTo(6);
        int s = upTo(6);
        int calls = countingTests(x, m, r, s);
        while (m.statements.isEmpty()) {
            build(x, m, 10 + upTo(4));
            calls++;
        }
        if (upTo(2) == 0) {
            build(x, m, 10 + upTo(4));
            due("seq()", x.seq(), m.seq());
            calls += 2;
        }
        due("number(1)", x.number(1), m.number(1));
        due("update(0, " + r + ")", x.update(0, r), m.update(0, r));
        due("tested(1)", x.tested(1), m.tested(1));
        calls += 3 + finish(x, m);
        int times = upTo(3) == 0 ? upTo(200) : upTo(6);
        boolean atEnd = upTo(2) == 0;
        due("load(" + s + ", " + times + ")", x.load(s, times), m.load(s, times));
        due("load(" + r + ")", x.load(r, atEnd ? times : 0), m.load(r, atEnd ? times : 0));
        return calls + 2;
    }

    /** Many calls in a row, so that a few procedures make many steps. */
    private static int fan(Trial x, Model m) {
        due("discard()", x.discard(), m.discard());
        int wide = 2 + upTo(7);
        for (int i = 0; i < wide; i++) {
            int op = 4 + upTo(2);
            int p = upTo(3);
            due("simple(" + op + ", 0, " + p + ")", x.simple(op, 0, p), m.simple(op, 0, p));
        }
        for (int i = 1; i < wide; i++) {
            due("seq()", x.seq(), m.seq());
        }
        return 2 * wide + finish(x, m);
    }

    /** Brings what is on the stacks to one statement, as far as the limits and chance let it. */
    private static int finish(Trial x, Model m) {
        int calls = 0;
        while (calls < 24 && (m.statements.size() > 1 || !m.expressions.isEmpty())) {
            if (m.statements.size() > 1 && m.expressions.size() > 1) {
                int op = upTo(2);
                due("tested(" + op + ")", x.tested(op), m.tested(op));
            } else if (!m.expressions.isEmpty()) {
                int op = upTo(4);
                int r = upTo(6);
                due("update(" + op + ", " + r + ")", x.update(op, r), m.update(op, r));
            } else {
                due("seq()", x.seq(), m.seq());
            }
            calls++;
        }
        int p = about(3);
        due("procedure(" + p + ")", x.procedure(p), m.procedure(p));
        return calls + 1;
    }

    private static int observe(Trial x, Model m) {
        due("outcome()", x.outcome(), m.outcome);
        due("steps()", x.steps(), m.steps);
        due("pile()", x.pile(), m.pile.size());
        for (int r = 0; r < 6; r++) {
            due("look(" + r + ")", x.look(r), m.look(r));
        }
        int i = about(12);
        due("onPile(" + i + ")", x.onPile(i), m.onPile(i));
        due("onPile(0)", x.onPile(0), m.onPile(0));
        return 11;
    }

    private static int runOnce(Trial x, Model m) {
        int p = about(3);
        int backwards = upTo(2) == 0 ? 0 : upTo(5) - 2;
        int want = m.run(p, backwards);
        due("run(" + p + ", " + backwards + ")", x.run(p, backwards), want);
        if (want >= 0) {
            seen[want]++;
        }
        return 1;
    }

    private static void oneObject() {
        told.setLength(0);
        Trial x = new Trial();
        Model m = new Model();
        int calls = 0;
        int eager = 8 + upTo(40);
        while (calls < CALLS - 60 && wrong == 0) {
            int chance = upTo(eager + 12);
            if (chance < eager) {
                build(x, m, upTo(22));
                calls++;
            } else if (chance < eager + 3) {
                calls += finish(x, m);
            } else if (chance == eager + 3 && upTo(3) > 0) {
                calls += upTo(2) == 0 ? countingLoop(x, m) : fan(x, m);
            } else if (chance < eager + 4) {
                due("discard()", x.discard(), m.discard());
                calls++;
            } else if (chance < eager + 7) {
                int r = about(6);
                int v = someLoad();
                due("load(" + r + ", " + v + ")", x.load(r, v), m.load(r, v));
                calls++;
            } else {
                calls += runOnce(x, m);
                calls += observe(x, m);
            }
        }
    }

    public static void main(String[] args) {
        for (int i = 0; i < OBJECTS && wrong == 0; i++) {
            oneObject();
        }
        System.out.println("runs done " + seen[0] + ", failed " + seen[1] + ", tired " + seen[2] + ", deep " + seen[3]);
        for (int how = 0; how < 4; how++) {
            if (seen[how] < 100) {
                wrong++;
                System.out.println("too few runs ended in " + how + " to test anything");
            }
        }
        System.out.println(wrong == 0 ? "all answers are as due" : "answers are not as due");
        if (wrong != 0) {
            System.exit(1);
        }
    }
}
