/**
 * 'Terms', sentence by sentence: what each kind of statement does in either direction and where it
 * fails, the arithmetic and the pile at their edges, the steps, and how runs end.
 */
public final class RunsTest {
    private static final int DONE = BackAndForth.DONE;
    private static final int FAILED = BackAndForth.FAILED;
    private static final int TIRED = BackAndForth.TIRED;
    private static final int DEEP = BackAndForth.DEEP;

    private static final int MIN = Integer.MIN_VALUE;
    private static final int MAX = Integer.MAX_VALUE;

    private static final int FORWARDS = 0;
    private static final int BACKWARDS = 1;
    private static final int[] WAYS = {FORWARDS, BACKWARDS};
    private static final int[] TRUTHS = {1, -1, 2, 256, 65536, MAX, MIN};
    private static final int[] TWELVE = {1, 2, 3, 4, 5, 6, 7, 8, 9, 10, 11, 12};

    /** Counts register 4 up to register 5 from 0, in twice as many steps and one. */
    private static final String COUNTING = "r4 n0 = r4 r5 = skip n1 add4 loop";

    /** The ten kinds that make a step. Calls are of procedure 2. */
    private static final String[] STEPPING = {
        "skip", "n1 add0", "n1 sub0", "n1 xor0", "swap01", "push0", "pop0", "n1 check", "call2", "back2",
    };

    private static final String STIRRING_REGISTERS =
        "n1 add0 n1 sub1 seq n7 add2 seq n9 xor3 seq n1 add4 seq n1 add5 seq";

    /** Changes the pile too, in place and in height, and can be run in either direction. */
    private static final String STIRRING =
        "pop0 n5 add0 seq push0 seq push1 seq n7 add2 seq n9 xor3 seq n1 add4 seq n1 add5 seq";

    public static void main(String[] args) {
        arithmetic();
        truth();
        updates();
        swaps();
        pushes();
        pops();
        checks();
        callsAndBacks();
        seqs();
        ifs();
        loops();
        steps();
        tired();
        failed();
        deep();
        leftAsItWas();
        done();
        Report.end();
    }

    // ---- helpers

    private static void due(String what, int got, int want) {
        Report.due(what, got, want);
    }

    /** Procedure 1 is made of the words, as the last one. */
    private static Trial of(String words) {
        return new Trial().make(1, words);
    }

    /** A full pile, with 12 on top; register 0 and procedure 0 have been used for it. */
    private static Trial withFullPile(String words) {
        return new Trial().pileUp(TWELVE).make(1, words);
    }

    private static void dueFullPile(Trial x) {
        Report.duePile(x, 12, 11, 10, 9, 8, 7, 6, 5, 4, 3, 2, 1);
    }

    /** The one and then the other when run this way. */
    private static String inTurn(int way, String first, String second) {
        return (way == FORWARDS ? first + " " + second : second + " " + first) + " seq";
    }

    /** A test for the way in and one for the way out, when run this way. */
    private static String inAndOut(int way, String in, String out) {
        return way == FORWARDS ? in + " " + out : out + " " + in;
    }

    /** Procedure 1 makes just so many steps and then comes to the words, when run this way. */
    private static Trial before(int steps, int way, String words) {
        boolean odd = steps % 2 == 1;
        int times = (odd ? steps - 3 : steps - 2) / 2;
        String counting = odd ? inTurn(way, "skip", "call0") : "call0";
        Trial x = new Trial().make(0, COUNTING).make(1, inTurn(way, counting, words));
        x.load(4, way == FORWARDS ? 0 : times);
        x.load(5, times);
        return x;
    }

    // ---- registers and expressions

    private static void arithmetic() {
        Report.sentence("Java ints (arithmetic wraps): in add, sub and mul of expressions", () -> {
            dueValue("r0 n1 +", MAX, 0, MIN);
            dueValue("r0 r1 +", MIN, MIN, 0);
            dueValue("r0 r1 +", MIN, -1, MAX);
            dueValue("r0 n1 -", MIN, 0, MAX);
            dueValue("r0 r1 -", MAX, -1, MIN);
            dueValue("n0 r1 -", 0, MIN, MIN);
            dueValue("r0 r1 *", MIN, -1, MIN);
            dueValue("r0 r1 *", MAX, 2, -2);
            dueValue("r0 r1 *", MAX, MAX, 1);
            dueValue("r0 r1 *", 65536, 65536, 0);
            dueValue("r0 r1 *", 65536, 32768, MIN);
        });
        Report.sentence("less (1 if X is less than Y, else 0): it does not wrap", () -> {
            dueValue("r0 r1 <", MIN, MAX, 1);
            dueValue("r0 r1 <", MAX, MIN, 0);
            dueValue("r0 r1 <", MIN, 1, 1);
            dueValue("r0 r1 <", 1, MIN, 0);
            dueValue("r0 r1 <", MAX, -1, 0);
            dueValue("r0 r1 <", -1, MAX, 1);
            dueValue("r0 r1 <", MIN, MIN, 0);
            dueValue("r0 r1 <", MAX, MAX, 0);
            dueValue("r0 r1 <", -1, 0, 1);
            dueValue("r0 r1 <", 0, -1, 0);
            dueValue("r0 r1 <", 0, 0, 0);
        });
        Report.sentence("same (1 if X is Y, else 0)", () -> {
            dueValue("r0 r1 =", MIN, MIN, 1);
            dueValue("r0 r1 =", MIN, MAX, 0);
            dueValue("r0 r1 =", 0, MIN, 0);
            dueValue("r0 r1 =", 0, 0, 1);
            dueValue("r0 r1 =", 1, -1, 0);
            dueValue("r0 r1 =", 65536, 0, 0);
        });
        Report.sentence("xor, and (of bits)", () -> {
            dueValue("r0 r1 ^", MIN, -1, MAX);
            dueValue("r0 r1 ^", MIN, MAX, -1);
            dueValue("r0 r1 &", MIN, MAX, 0);
            dueValue("r0 r1 &", MIN, -1, MIN);
            dueValue("r0 r1 &", 6, 3, 2);
            dueValue("r0 r1 &", 4, 3, 0);
        });
        Report.sentence("there are six registers, 0 to 5, and none is another one", () -> {
            for (int r = 0; r < 6; r++) {
                Trial x = of("n1 add" + r).fill(MAX, MAX, MAX, MAX, MAX, MAX);
                Report.dueRun(x, 1, FORWARDS, DONE, 1);
                for (int other = 0; other < 6; other++) {
                    due("look(" + other + ")", x.look(other), other == r ? MIN : MAX);
                }
            }
        });
    }

    private static void dueValue(String words, int first, int second, int value) {
        Trial x = of(words + " xor5").fill(first, second);
        Report.dueRun(x, 1, FORWARDS, DONE, 1);
        due(words + " of " + first + ", " + second, x.look(5), value);
    }

    private static void truth() {
        Report.sentence("they are TRUE if they are not 0", () -> {
            for (int way : WAYS) {
                for (int number : TRUTHS) {
                    dueTruth(way, number, true);
                }
                dueTruth(way, 0, false);
            }
        });
        Report.sentence("they are TRUE if they are not 0: what wraps to 0 is not true", () -> {
            for (int way : WAYS) {
                Report.dueRun(of("r0 r0 * check").fill(65536), 1, way, FAILED, 1);
                Report.dueRun(of("r0 r0 + check").fill(MIN), 1, way, FAILED, 1);
                Report.dueRun(of("r0 r0 + check").fill(MAX), 1, way, DONE, 1);
            }
        });
    }

    private static void dueTruth(int way, int number, boolean isTrue) {
        int ifTrue = isTrue ? DONE : FAILED;
        int ifNot = isTrue ? FAILED : DONE;
        Report.dueRun(of("r0 check").fill(number), 1, way, ifTrue, 1);
        Report.dueRun(of(inAndOut(way, "r0", "n1") + " skip skip if").fill(number), 1, way, ifTrue, 1);
        Report.dueRun(of(inAndOut(way, "r0", "n0") + " skip skip if").fill(number), 1, way, ifNot, 1);
        Report.dueRun(of(inAndOut(way, "n1", "r0") + " skip skip if").fill(number), 1, way, ifTrue, 1);
        Report.dueRun(of(inAndOut(way, "n0", "r0") + " skip skip if").fill(number), 1, way, ifNot, 1);
        Report.dueRun(of(inAndOut(way, "r0", "n1") + " skip skip loop").fill(number), 1, way, ifTrue, isTrue ? 1 : 0);
        Report.dueRun(of(inAndOut(way, "n1", "r0") + " skip skip loop").fill(number), 1, way, ifTrue, isTrue ? 1 : 2);
    }

    // ---- statements that change

    private static void updates() {
        Report.sentence("skip: nothing", () -> {
            for (int way : WAYS) {
                Trial x = new Trial().pileUp(5, 6).make(1, "skip").fill(1, 2, 3, 4, 5, 6);
                Report.dueRun(x, 1, way, DONE, 1);
                Report.dueRegisters(x, 1, 2, 3, 4, 5, 6);
                Report.duePile(x, 6, 5);
            }
        });
        Report.sentence("add r X: forwards X is added to register r; backwards it is taken from it",
            () -> dueUpdate("add"));
        Report.sentence("sub r X: forwards X is taken from register r; backwards it is added to it",
            () -> dueUpdate("sub"));
        Report.sentence("xor r X: in both directions the exclusive or", () -> dueUpdate("xor"));
        Report.sentence("arithmetic wraps: in add and sub, forwards and backwards", () -> {
            dueChange("n1 add0", FORWARDS, MAX, MIN);
            dueChange("n1 add0", BACKWARDS, MIN, MAX);
            dueChange("n-1 add0", FORWARDS, MIN, MAX);
            dueChange("n-1 add0", BACKWARDS, MAX, MIN);
            dueChange("n1 sub0", FORWARDS, MIN, MAX);
            dueChange("n1 sub0", BACKWARDS, MAX, MIN);
            dueChange("n-1 sub0", FORWARDS, MAX, MIN);
            dueChange("n-1 sub0", BACKWARDS, MIN, MAX);
        });
    }

    private static void dueChange(String words, int way, int from, int to) {
        Trial x = of(words).fill(from);
        Report.dueRun(x, 1, way, DONE, 1);
        due(words + ", " + way + ", from " + from, x.look(0), to);
        Report.dueRun(x, 1, 1 - way, DONE, 1);
        due(words + ", " + way + ", and back to " + from, x.look(0), from);
    }

    private static void dueUpdate(String kind) {
        int[] numbers = {0, 1, -1, 100, 12345, MAX, MAX - 1, MIN, MIN + 1};
        for (int r = 0; r < 6; r++) {
            int s = (r + 5) % 6;
            for (int from : numbers) {
                for (int by : numbers) {
                    for (int way : WAYS) {
                        boolean up = kind.equals("add") == (way == FORWARDS);
                        int to = kind.equals("xor") ? from ^ by : up ? from + by : from - by;
                        Trial x = of("r" + s + " " + kind + r);
                        x.load(r, from);
                        x.load(s, by);
                        Report.dueRun(x, 1, way, DONE, 1);
                        due(kind + " of " + from + " by " + by + ", " + way, x.look(r), to);
                        due("the register of X stays", x.look(s), by);
                    }
                }
            }
        }
    }

    private static void swaps() {
        Report.sentence("swap r s: registers r and s exchange their numbers, in both directions", () -> {
            for (int r = 0; r < 6; r++) {
                for (int s = 0; s < 6; s++) {
                    for (int way : WAYS) {
                        int[] numbers = {MIN, 22, -33, 0, 55, MAX};
                        Trial x = of("swap" + r + s).fill(numbers);
                        Report.dueRun(x, 1, way, DONE, 1);
                        int was = numbers[r];
                        numbers[r] = numbers[s];
                        numbers[s] = was;
                        Report.dueRegisters(x, numbers);
                    }
                }
            }
        });
        Report.sentence("swap r s: where both are the same nothing changes", () -> {
            for (int way : WAYS) {
                Trial x = of("swap33").fill(1, 2, 3, 4, 5, 6);
                Report.dueRun(x, 1, way, DONE, 1);
                Report.dueRegisters(x, 1, 2, 3, 4, 5, 6);
            }
        });
    }

    // ---- the pile

    /** A statement that pushes register r when run this way. */
    private static String pushing(int way, int r) {
        return (way == FORWARDS ? "push" : "pop") + r;
    }

    private static String popping(int way, int r) {
        return (way == FORWARDS ? "pop" : "push") + r;
    }

    private static void pushes() {
        Report.sentence("push r: the number comes on top of the pile and register r becomes 0"
            + " (backwards pop r)", () -> {
                for (int way : WAYS) {
                    for (int r = 0; r < 6; r++) {
                        int[] numbers = {MIN, -2, 3, 4, 5, MAX};
                        Trial x = new Trial().pileUp(70, 80).make(1, pushing(way, r)).fill(numbers);
                        Report.dueRun(x, 1, way, DONE, 1);
                        Report.duePile(x, numbers[r], 80, 70);
                        numbers[r] = 0;
                        Report.dueRegisters(x, numbers);
                        Report.dueRun(x, 1, way, DONE, 1);
                        due("a 0 comes on the pile as well", x.pile(), 4);
                    }
                }
            });
        Report.sentence("a pile of at most 12 ints; push FAILS if the pile is full (backwards pop)", () -> {
            for (int way : WAYS) {
                Trial x = of(pushing(way, 2));
                for (int i = 1; i <= 12; i++) {
                    x.load(2, i);
                    Report.dueRun(x, 1, way, DONE, 1);
                    due("pile", x.pile(), i);
                }
                dueFullPile(x);
                x.load(2, 13);
                Report.dueRun(x, 1, way, FAILED, 1);
                Report.dueRegisters(x, 0, 0, 13);
                dueFullPile(x);
            }
        });
        Report.sentence("push FAILS if the pile is full, also where register r is 0", () -> {
            for (int way : WAYS) {
                Trial x = withFullPile(pushing(way, 2));
                Report.dueRun(x, 1, way, FAILED, 1);
                dueFullPile(x);
            }
        });
        Report.sentence("push FAILS if the pile is full: after one has gone it does not", () -> {
            for (int way : WAYS) {
                Trial x = withFullPile(inTurn(way, popping(way, 1), pushing(way, 2))).fill(0, 0, 77);
                Report.dueRun(x, 1, way, DONE, 2);
                Report.dueRegisters(x, 0, 12);
                Report.duePile(x, 77, 11, 10, 9, 8, 7, 6, 5, 4, 3, 2, 1);
            }
        });
        Report.sentence("a pile of at most 12 ints: filled within one run", () -> {
            for (int way : WAYS) {
                String six = pushing(way, 0) + (" " + pushing(way, 0) + " seq").repeat(5);
                Trial x = new Trial().make(0, six).make(1, "call0 call0 seq");
                Report.dueRun(x, 1, way, DONE, 14);
                due("pile", x.pile(), 12);
                x = new Trial().make(0, six).make(1, inTurn(way, "call0 call0 seq", pushing(way, 0)));
                Report.dueRun(x, 1, way, FAILED, 15);
                Report.duePile(x);
            }
        });
    }

    private static void pops() {
        Report.sentence("pop r: register r becomes the top number of the pile, which goes"
            + " (backwards push r)", () -> {
                for (int way : WAYS) {
                    for (int r = 0; r < 6; r++) {
                        int[] numbers = {1, 2, 3, 4, 5, 6};
                        numbers[r] = 0;
                        Trial x = new Trial().pileUp(MAX, 0, MIN).make(1, popping(way, r)).fill(numbers);
                        Report.dueRun(x, 1, way, DONE, 1);
                        numbers[r] = MIN;
                        Report.dueRegisters(x, numbers);
                        Report.duePile(x, 0, MAX);
                        x.load(r, 0);
                        Report.dueRun(x, 1, way, DONE, 1);
                        numbers[r] = 0;
                        Report.dueRegisters(x, numbers);
                        Report.duePile(x, MAX);
                        Report.dueRun(x, 1, way, DONE, 1);
                        due("the last one", x.look(r), MAX);
                        Report.duePile(x);
                    }
                }
            });
        Report.sentence("pop FAILS if the pile is empty (backwards push)", () -> {
            for (int way : WAYS) {
                for (int r = 0; r < 6; r++) {
                    Trial x = of(popping(way, r));
                    Report.dueRun(x, 1, way, FAILED, 1);
                    Report.dueRegisters(x);
                    Report.duePile(x);
                }
                Trial x = new Trial().pileUp(5).make(1, popping(way, 1));
                Report.dueRun(x, 1, way, DONE, 1);
                x.load(1, 0);
                Report.dueRun(x, 1, way, FAILED, 1);
                Report.dueRegisters(x);
                Report.duePile(x);
            }
        });
        Report.sentence("pop FAILS if register r is not 0 (backwards push)", () -> {
            for (int way : WAYS) {
                for (int number : TRUTHS) {
                    Trial x = new Trial().pileUp(5, 6).make(1, popping(way, 3)).fill(0, 0, 0, number);
                    Report.dueRun(x, 1, way, FAILED, 1);
                    Report.dueRegisters(x, 0, 0, 0, number);
                    Report.duePile(x, 6, 5);
                }
                Trial x = new Trial().pileUp(5).make(1, popping(way, 3)).fill(1, 2, 3, 0, 5, 6);
                Report.dueRun(x, 1, way, DONE, 1);
                Report.dueRegisters(x, 1, 2, 3, 5, 5, 6);
            }
        });
        Report.sentence("pop FAILS if the pile is empty and register r is not 0 as well", () -> {
            for (int way : WAYS) {
                Trial x = of(popping(way, 3)).fill(0, 0, 0, 9);
                Report.dueRun(x, 1, way, FAILED, 1);
                Report.dueRegisters(x, 0, 0, 0, 9);
                Report.duePile(x);
            }
        });
        Report.sentence("pop does not fail if the pile is full", () -> {
            for (int way : WAYS) {
                Trial x = withFullPile(popping(way, 1));
                Report.dueRun(x, 1, way, DONE, 1);
                Report.dueRegisters(x, 0, 12);
                Report.duePile(x, 11, 10, 9, 8, 7, 6, 5, 4, 3, 2, 1);
            }
        });
        Report.sentence("what came on the pile goes in the other order, over as many as it takes", () -> {
            for (int way : WAYS) {
                Trial x = of(popping(way, 1)).pileUp(TWELVE);
                for (int i = 12; i >= 1; i--) {
                    x.load(1, 0);
                    Report.dueRun(x, 1, way, DONE, 1);
                    due("popped", x.look(1), i);
                    due("pile", x.pile(), i - 1);
                }
                x.load(1, 0);
                Report.dueRun(x, 1, way, FAILED, 1);
            }
        });
    }

    private static void checks() {
        Report.sentence("check X: FAILS if X is not true, and changes nothing", () -> {
            for (int way : WAYS) {
                Trial x = new Trial().pileUp(5).make(1, "r0 check").fill(0, 2, 3, 4, 5, 6);
                Report.dueRun(x, 1, way, FAILED, 1);
                Report.dueRegisters(x, 0, 2, 3, 4, 5, 6);
                x.load(0, -1);
                Report.dueRun(x, 1, way, DONE, 1);
                Report.dueRegisters(x, -1, 2, 3, 4, 5, 6);
                Report.duePile(x, 5);
            }
        });
    }

    // ---- statements with others

    private static void callsAndBacks() {
        Report.sentence("call p: forwards when this is run forwards, backwards when backwards", () -> {
            for (int p = 0; p < 3; p++) {
                dueCalled("call" + p, p, FORWARDS, 3);
                dueCalled("call" + p, p, BACKWARDS, -3);
            }
        });
        Report.sentence("back p: backwards when this is run forwards, forwards when backwards", () -> {
            for (int p = 0; p < 3; p++) {
                dueCalled("back" + p, p, FORWARDS, -3);
                dueCalled("back" + p, p, BACKWARDS, 3);
            }
        });
        Report.sentence("call and back of procedures with call and back", () -> {
            String[] words = {"call", "back"};
            for (String first : words) {
                for (String second : words) {
                    for (int way : WAYS) {
                        Trial x = new Trial().make(0, "n3 add0").make(2, second + "0").make(1, first + "2");
                        boolean turned = !first.equals(second);
                        Report.dueRun(x, 1, way, DONE, 3);
                        Report.dueRegisters(x, turned == (way == FORWARDS) ? -3 : 3);
                    }
                }
            }
        });
        Report.sentence("after a back the run goes on in its own direction", () -> {
            for (int way : WAYS) {
                Trial x = new Trial().make(0, "n3 add0");
                x.make(1, inTurn(way, inTurn(way, "n1 add1", "back0"), "n1 add2"));
                Report.dueRun(x, 1, way, DONE, 4);
                int sign = way == FORWARDS ? 1 : -1;
                Report.dueRegisters(x, -3 * sign, sign, sign);
            }
        });
    }

    private static void dueCalled(String word, int p, int way, int change) {
        int q = (p + 1) % 3;
        Trial x = new Trial().make(p, "n3 add0").make(q, word);
        Report.dueRun(x, q, way, DONE, 2);
        Report.dueRegisters(x, change);
    }

    private static void seqs() {
        Report.sentence("seq of A, B: forwards A is run, then B", () -> {
            Trial x = of("n3 add0 swap01 seq").fill(10, 20);
            Report.dueRun(x, 1, FORWARDS, DONE, 2);
            Report.dueRegisters(x, 20, 13);
        });
        Report.sentence("seq of A, B: backwards B is run backwards, then A backwards", () -> {
            Trial x = of("n3 add0 swap01 seq").fill(10, 20);
            Report.dueRun(x, 1, BACKWARDS, DONE, 2);
            Report.dueRegisters(x, 17, 10);
        });
        Report.sentence("seq of A, B: B is not run where A failed; backwards, A not where B failed", () -> {
            for (int way : WAYS) {
                Trial x = of(inTurn(way, "n0 check", "n3 add0"));
                Report.dueRun(x, 1, way, FAILED, 1);
                Report.dueRun(x, 1, 1 - way, FAILED, 2);
                Report.dueRegisters(x);
            }
        });
        Report.sentence("seq of A, B: as deep as 15 statements go, on either side", () -> {
            String left = "n1 add0" + " r0 add1 seq r1 add0 seq".repeat(3) + " swap01 seq";
            String right = "n1 add0 " + "r0 add1 r1 add0 ".repeat(3) + "swap01" + " seq".repeat(7);
            String[] both = {left, right};
            for (String words : both) {
                Trial x = of(words);
                Report.dueRun(x, 1, FORWARDS, DONE, 8);
                Report.dueRegisters(x, 8, 13);
                Report.dueRun(x, 1, BACKWARDS, DONE, 8);
                Report.dueRegisters(x);
            }
        });
    }

    private static void ifs() {
        String parts = " n1 add2 n10 add2 if";
        for (int way : WAYS) {
            String named = way == FORWARDS ? "if, forwards: " : "if, backwards (Y for X, X for Y): ";
            int sign = way == FORWARDS ? 1 : -1;
            Report.sentence(named + "if X is true A is run", () -> {
                Trial x = of(inAndOut(way, "r0", "n1") + parts).fill(1);
                Report.dueRun(x, 1, way, DONE, 1);
                Report.dueRegisters(x, 1, 0, sign);
            });
            Report.sentence(named + "and then it FAILS if Y is not true", () -> {
                Trial x = of(inAndOut(way, "r0", "n0") + parts).fill(1);
                Report.dueRun(x, 1, way, FAILED, 1);
                Report.dueRegisters(x, 1);
            });
            Report.sentence(named + "else B is run", () -> {
                Trial x = of(inAndOut(way, "r0", "n0") + parts);
                Report.dueRun(x, 1, way, DONE, 1);
                Report.dueRegisters(x, 0, 0, 10 * sign);
            });
            Report.sentence(named + "and then it FAILS if Y is true", () -> {
                Trial x = of(inAndOut(way, "r0", "n1") + parts);
                Report.dueRun(x, 1, way, FAILED, 1);
                Report.dueRegisters(x);
            });
            Report.sentence(named + "where A or B fails the run ends there", () -> {
                Trial x = new Trial().make(1, inTurn(way, inAndOut(way, "r0", "r0") + " n0 check n0 check if", "skip"));
                Report.dueRun(x, 1, way, FAILED, 1);
                x.load(0, 1);
                Report.dueRun(x, 1, way, FAILED, 1);
            });
        }
        Report.sentence("if: X is looked at before A or B and Y after it; backwards Y before, X after",
            RunsTest::ifsOfManyNumbers);
        Report.sentence("if: as deep as 15 statements go", () -> {
            Trial x = of("r0 r1 r0 r1 r0 r1 r0 r1 r0 r1 r0 r1 r0 r1 skip" + " skip if".repeat(7));
            int[] both = {0, 5};
            for (int number : both) {
                for (int way : WAYS) {
                    x.fill(number, number);
                    Report.dueRun(x, 1, way, DONE, 1);
                }
            }
        });
    }

    private static void ifsOfManyNumbers() {
        int[] numbers = {-10, -1, 0, 1, 5, 10};
        for (int first : numbers) {
            for (int second : numbers) {
                for (int way : WAYS) {
                    Trial x = of("r0 r1 n1 add0 n1 add1 seq n10 add0 n10 add1 seq if").fill(first, second);
                    int sign = way == FORWARDS ? 1 : -1;
                    boolean taken = (way == FORWARDS ? first : second) != 0;
                    int change = taken ? sign : 10 * sign;
                    int after = (way == FORWARDS ? second : first) + change;
                    boolean fits = taken == (after != 0);
                    Report.dueRun(x, 1, way, fits ? DONE : FAILED, 2);
                    Report.dueRegisters(x, fits ? first + change : first, fits ? second + change : second);
                }
            }
        }
    }

    private static void loops() {
        String parts = " n1 add2 n10 add2 loop";
        for (int way : WAYS) {
            String named = way == FORWARDS ? "loop, forwards: " : "loop, backwards (Y for X, X for Y): ";
            int sign = way == FORWARDS ? 1 : -1;
            Report.sentence(named + "it FAILS if X is not true", () -> {
                String[] outs = {"n0", "n1"};
                for (String out : outs) {
                    Trial x = of(inAndOut(way, "n0", out) + parts);
                    Report.dueRun(x, 1, way, FAILED, 0);
                    Report.dueRegisters(x);
                }
            });
            Report.sentence(named + "then A is run; if Y is true then that is all", () -> {
                Trial x = of(inAndOut(way, "n1", "n1") + parts);
                Report.dueRun(x, 1, way, DONE, 1);
                Report.dueRegisters(x, 0, 0, sign);
                // X is not looked at any more, be it true or not.
                x = of(inAndOut(way, "r2 n0 =", "n1") + parts);
                Report.dueRun(x, 1, way, DONE, 1);
                Report.dueRegisters(x, 0, 0, sign);
            });
            Report.sentence(named + "else B is run, then it FAILS if X is true", () -> {
                Trial x = of(inAndOut(way, "n1", "n0") + parts);
                Report.dueRun(x, 1, way, FAILED, 2);
                Report.dueRegisters(x);
            });
            Report.sentence(named + "and then A is run again, and so on", () -> {
                for (int times = 0; times <= 6; times++) {
                    int end = (11 * times + 1) * sign;
                    Trial x = of(inAndOut(way, "r2 n0 =", "r2 r0 =") + parts).fill(end);
                    Report.dueRun(x, 1, way, DONE, 2 * times + 1);
                    Report.dueRegisters(x, end, 0, end);
                }
            });
            Report.sentence(named + "it FAILS if X is true after B, the second time as well", () -> {
                Trial x = of(inAndOut(way, "r2 n0 = r2 n" + 22 * sign + " = +", "n0") + parts);
                Report.dueRun(x, 1, way, FAILED, 4);
                Report.dueRegisters(x);
            });
            Report.sentence(named + "X is not looked at after A, nor Y after B", () -> {
                String in = "r2 n0 = r2 n" + sign + " = +";
                String out = "r2 n" + 11 * sign + " = r2 n" + 12 * sign + " = +";
                Trial x = of(inAndOut(way, in, out) + parts);
                Report.dueRun(x, 1, way, DONE, 3);
                Report.dueRegisters(x, 0, 0, 12 * sign);
            });
            Report.sentence(named + "where A or B fails the run ends there", () -> {
                Report.dueRun(of(inAndOut(way, "n1", "n1") + " n0 check skip loop"), 1, way, FAILED, 1);
                Report.dueRun(of(inAndOut(way, "n1", "n0") + " skip n0 check loop"), 1, way, FAILED, 2);
            });
        }
        Report.sentence("loop: a loop in a loop begins anew each time", RunsTest::loopInLoop);
    }

    /** The inner one counts register 2 up to register 3, the outer one register 0 up to register 1. */
    private static void loopInLoop() {
        Trial x = new Trial().make(2, "r2 n0 = r2 r3 = n1 add4 n1 add2 loop r2 sub5 seq r3 sub2 seq")
            .make(1, "r0 n0 = r0 r1 = call2 n1 add0 loop").fill(0, 3, 0, 4);
        Report.dueRun(x, 1, FORWARDS, DONE, 4 * (1 + 9 + 2) + 3);
        Report.dueRegisters(x, 3, 3, 0, 4, 20, -16);
        Report.dueRun(x, 1, BACKWARDS, DONE, 4 * (1 + 9 + 2) + 3);
        Report.dueRegisters(x, 0, 3, 0, 4);
    }

    // ---- steps

    private static void steps() {
        Report.sentence("a STEP whenever it begins to do one of the first ten kinds, in either direction", () -> {
            for (int way : WAYS) {
                for (String words : STEPPING) {
                    boolean calls = words.equals("call2") || words.equals("back2");
                    Trial x = new Trial().pileUp(0).make(1, words);
                    Report.dueRun(x, 1, way, DONE, calls ? 2 : 1);
                }
            }
        });
        Report.sentence("a STEP is made by what then fails as well", () -> {
            for (int way : WAYS) {
                Report.dueRun(of("n0 check"), 1, way, FAILED, 1);
                Report.dueRun(of(popping(way, 0)), 1, way, FAILED, 1);
                Report.dueRun(withFullPile(pushing(way, 0)), 1, way, FAILED, 1);
            }
        });
        Report.sentence("seq, if and loop make no step", () -> {
            for (int way : WAYS) {
                Report.dueRun(of("skip skip seq"), 1, way, DONE, 2);
                Report.dueRun(of("n1 n1 skip skip if"), 1, way, DONE, 1);
                Report.dueRun(of("n0 n0 skip skip if"), 1, way, DONE, 1);
                Report.dueRun(of("n1 n1 skip skip loop"), 1, way, DONE, 1);
                Report.dueRun(of("n0 n0 skip skip loop"), 1, way, FAILED, 0);
                Report.dueRun(of("n1 n1 n1 n1 n1 n1 skip skip seq skip if skip loop skip if"), 1, way, DONE, 2);
            }
        });
        Report.sentence("a call's step and those of its procedure, each time it is called", () -> {
            for (int way : WAYS) {
                Trial x = new Trial().make(2, "skip skip seq skip seq").make(1, "call2 back2 seq call2 seq");
                Report.dueRun(x, 1, way, DONE, 12);
            }
        });
        Report.sentence("steps of one run are not those of another", () -> {
            for (int way : WAYS) {
                Trial x = before(297, way, "skip");
                for (int i = 0; i < 3; i++) {
                    Report.dueRun(x, 1, way, DONE, 298);
                    x.load(4, way == FORWARDS ? 0 : x.look(5));
                }
            }
        });
    }

    // ---- tired

    private static void tired() {
        Report.sentence("the 300th step is made, whatever kind it is", () -> {
            for (int way : WAYS) {
                for (String words : STEPPING) {
                    boolean calls = words.equals("call2") || words.equals("back2");
                    Trial x = before(calls ? 298 : 299, way, words);
                    x.put("push1").become(2);
                    due("a 0 on the pile", x.run(2, 0), DONE);
                    x.make(2, "skip");
                    Report.dueRun(x, 1, way, DONE, 300);
                }
            }
        });
        Report.sentence("where the 301st would be made it ends instead, TIRED, whatever kind it is", () -> {
            for (int way : WAYS) {
                for (String words : STEPPING) {
                    Trial x = before(300, way, words);
                    x.make(2, "push1");
                    due("a 0 on the pile", x.run(2, 0), DONE);
                    x.make(2, "skip");
                    x.load(0, 7);
                    x.load(1, 8);
                    Report.dueRun(x, 1, way, TIRED, 300);
                    Report.dueRegisters(x, 7, 8, 0, 0, way == FORWARDS ? 0 : 149, 149);
                    Report.duePile(x, 0);
                }
            }
        });
        Report.sentence("the 301st ends the run TIRED, not FAILED, though it would fail", () -> {
            for (int way : WAYS) {
                String[] failing = {"n0 check", popping(way, 0)};
                for (String words : failing) {
                    Report.dueRun(before(299, way, words), 1, way, FAILED, 300);
                    Report.dueRun(before(300, way, words), 1, way, TIRED, 300);
                    Report.dueRun(before(299, way, inTurn(way, "skip", words)), 1, way, TIRED, 300);
                }
                for (int steps = 299; steps <= 300; steps++) {
                    Trial x = before(steps, way, pushing(way, 0)).make(2, "push0");
                    for (int i = 0; i < 12; i++) {
                        due("push", x.run(2, FORWARDS), DONE);
                    }
                    Report.dueRun(x, 1, way, steps == 299 ? FAILED : TIRED, 300);
                    due("pile", x.pile(), 12);
                }
            }
        });
        Report.sentence("the 300th may be a call: then the first step of its procedure is the 301st", () -> {
            for (int way : WAYS) {
                String[] calling = {"call2", "back2"};
                for (String words : calling) {
                    Report.dueRun(before(298, way, words), 1, way, DONE, 300);
                    Report.dueRun(before(299, way, words), 1, way, TIRED, 300);
                    // What the called procedure does without a step is still done.
                    Trial x = before(299, way, words).make(2, "n0 n0 skip skip loop");
                    Report.dueRun(x, 1, way, FAILED, 300);
                }
            }
        });
        Report.sentence("after the 300th, what makes no step is still done: the tests of if", () -> {
            for (int way : WAYS) {
                String parts = " skip skip if";
                Report.dueRun(before(299, way, inAndOut(way, "n1", "n1") + parts), 1, way, DONE, 300);
                Report.dueRun(before(299, way, inAndOut(way, "n0", "n0") + parts), 1, way, DONE, 300);
                Report.dueRun(before(299, way, inAndOut(way, "n1", "n0") + parts), 1, way, FAILED, 300);
                Report.dueRun(before(299, way, inAndOut(way, "n0", "n1") + parts), 1, way, FAILED, 300);
                Report.dueRun(before(300, way, inAndOut(way, "n1", "n0") + parts), 1, way, TIRED, 300);
                Report.dueRun(before(300, way, inAndOut(way, "n0", "n1") + parts), 1, way, TIRED, 300);
            }
        });
        Report.sentence("after the 300th, what makes no step is still done: the tests of loop", () -> {
            for (int way : WAYS) {
                String parts = " skip skip loop";
                Report.dueRun(before(300, way, inAndOut(way, "n0", "n1") + parts), 1, way, FAILED, 300);
                Report.dueRun(before(300, way, inAndOut(way, "n1", "n1") + parts), 1, way, TIRED, 300);
                Report.dueRun(before(299, way, inAndOut(way, "n1", "n1") + parts), 1, way, DONE, 300);
                Report.dueRun(before(299, way, inAndOut(way, "n1", "n0") + parts), 1, way, TIRED, 300);
                Report.dueRun(before(298, way, inAndOut(way, "n1", "n0") + parts), 1, way, FAILED, 300);
            }
        });
        Report.sentence("a loop that goes on for ever ends TIRED", () -> {
            for (int way : WAYS) {
                Trial x = of(inAndOut(way, "r0 n0 =", "n0") + " n1 add0 n1 add0 loop");
                Report.dueRun(x, 1, way, TIRED, 300);
                Report.dueRegisters(x);
                // The same with a loop in it that ends each time.
                x = new Trial().make(2, "r1 n0 = r1 n9 = skip n1 add1 loop")
                    .make(1, inAndOut(way, "r0 n0 =", "n0") + " call2 n9 sub1 seq n1 add0 loop");
                Report.dueRun(x, 1, way, TIRED, 300);
                Report.dueRegisters(x);
            }
        });
        Report.sentence("calls that go on for ever in width end TIRED", () -> {
            for (int way : WAYS) {
                Trial x = new Trial().make(0, "skip skip skip skip skip skip skip skip" + " seq".repeat(7))
                    .make(2, "call0 call0 call0 call0 call0 call0 call0 call0" + " seq".repeat(7))
                    .make(1, "call2 call2 seq call2 seq call2 seq");
                Report.dueRun(x, 1, way, DONE, 4 * (1 + 8 * 9));
                x.make(1, "call2 call2 seq call2 seq call2 seq skip seq skip seq skip seq skip seq");
                Report.dueRun(x, 1, way, DONE, 296);
                x.make(1, "call2 call2 seq call2 seq call2 seq call0 seq");
                Report.dueRun(x, 1, way, TIRED, 300);
                x.make(1, "call2 call2 seq call2 seq call2 seq call2 seq");
                Report.dueRun(x, 1, way, TIRED, 300);
            }
        });
    }

    // ---- failed

    private static void failed() {
        Report.sentence("it ends, FAILED, as soon as something fails: what comes after is not begun", () -> {
            for (int way : WAYS) {
                String[] failing = {"n0 check", popping(way, 0)};
                for (String words : failing) {
                    Report.dueRun(of(inTurn(way, words, "skip")), 1, way, FAILED, 1);
                    Report.dueRun(of(inTurn(way, "skip", words)), 1, way, FAILED, 2);
                }
                Trial x = withFullPile(inTurn(way, pushing(way, 0), "skip"));
                Report.dueRun(x, 1, way, FAILED, 1);
            }
        });
        Report.sentence("it ends, FAILED, not only the procedure that was called", () -> {
            for (int way : WAYS) {
                String[] calling = {"call2", "back2"};
                for (String word : calling) {
                    Trial x = new Trial().make(2, "n0 check").make(1, inTurn(way, word, "n1 add0"));
                    Report.dueRun(x, 1, way, FAILED, 2);
                    Report.dueRegisters(x);
                }
            }
        });
        Report.sentence("it ends, FAILED, as soon as something fails: no step that would be too many comes", () -> {
            for (int way : WAYS) {
                Trial x = before(299, way, inTurn(way, "n0 check", "skip"));
                Report.dueRun(x, 1, way, FAILED, 300);
                x = new Trial().make(0, "call0").make(1, inTurn(way, "n0 check", "call0"));
                Report.dueRun(x, 1, way, FAILED, 1);
                x = new Trial().make(0, "call0").make(1, inTurn(way, "call0", "n0 check"));
                Report.dueRun(x, 1, way, DEEP, 7);
            }
        });
    }

    // ---- deep

    /** Goes down by the word as often as register 0 says, and adds 1 to register 1 there. */
    private static String goingDown(String word) {
        return "r0 r0 n1 sub0 " + word + " seq n1 add0 seq n1 add1 if";
    }

    private static void deep() {
        Report.sentence("6 calls or backs may have begun and not ended; the 7th is DEEP, its step made", () -> {
            String[][] sets = {
                {"call0", "call0", "call0"}, {"back0", "back0", "back0"}, {"call1", "call2", "call0"},
                {"back1", "back2", "back0"}, {"back1", "call2", "back0"}, {"call1", "back2", "call0"},
            };
            for (String[] words : sets) {
                for (int way : WAYS) {
                    Trial x = new Trial();
                    for (int p = 0; p < 3; p++) {
                        x.make(p, goingDown(words[p]));
                    }
                    dueDepths(x, way, words);
                }
            }
        });
        Report.sentence("DEEP: a call or back of itself, alone", () -> {
            String[] words = {"call0", "back0"};
            for (String word : words) {
                for (int way : WAYS) {
                    Trial x = new Trial().make(0, word);
                    Report.dueRun(x, 0, way, DEEP, 7);
                    x.make(1, word);
                    Report.dueRun(x, 1, way, DEEP, 7);
                }
            }
        });
        Report.sentence("DEEP where a call or back would begin: what else is there does no harm", () -> {
            for (int way : WAYS) {
                for (String words : STEPPING) {
                    if (!words.equals("call2") && !words.equals("back2")) {
                        Trial x = new Trial().make(0, "push5");
                        due("a 0 on the pile", x.run(0, 0), DONE);
                        x.make(0, "r4 r4 n1 sub4 call0 seq n1 add4 seq " + words + " if");
                        x.load(4, 6);
                        Report.dueRun(x, 0, way, DONE, 19);
                    }
                }
            }
        });
        Report.sentence("DEEP: those that have ended don't count", () -> {
            for (int way : WAYS) {
                String eight = "call2 back2 call2 back2 call2 back2 call2 back2" + " seq".repeat(7);
                Report.dueRun(of(eight), 1, way, DONE, 16);
                Trial x = new Trial().make(0, goingDown("call0")).make(1, "call0 back0 seq call0 seq");
                x.load(0, 5);
                Report.dueRun(x, 1, way, DONE, 3 * 17);
                x.load(0, 6);
                Report.dueRun(x, 1, way, DEEP, 13);
            }
        });
        Report.sentence("DEEP: those of an earlier run don't count", () -> {
            for (int way : WAYS) {
                Trial x = new Trial().make(0, goingDown("call0")).make(2, "call2").make(1, goingDown("call0"));
                for (int i = 0; i < 3; i++) {
                    Report.dueRun(x, 2, way, DEEP, 7);
                    x.load(0, 6);
                    Report.dueRun(x, 0, way, DONE, 19);
                }
                failingAndTiredDeepDown(way);
            }
        });
        Report.sentence("DEEP where its step has been made: as the 300th it is DEEP, as the 301st TIRED", () -> {
            String[] calling = {"call2", "back2"};
            for (int way : WAYS) {
                for (String word : calling) {
                    // The first call is the step after these, and the 7th is the 6th after that.
                    Report.dueRun(before(292, way, word).make(2, word), 1, way, DEEP, 299);
                    Report.dueRun(before(293, way, word).make(2, word), 1, way, DEEP, 300);
                    Report.dueRun(before(294, way, word).make(2, word), 1, way, TIRED, 300);
                    Report.dueRun(before(295, way, word).make(2, word), 1, way, TIRED, 300);
                }
            }
        });
        Report.sentence("DEEP: procedures of 15 statements, as deep as they go", () -> {
            String left = "call0" + " skip seq".repeat(7);
            String right = "skip skip skip skip skip skip skip call0" + " seq".repeat(7);
            Report.dueRun(new Trial().make(0, left), 0, FORWARDS, DEEP, 7);
            Report.dueRun(new Trial().make(0, left), 0, BACKWARDS, DEEP, 56);
            Report.dueRun(new Trial().make(0, right), 0, FORWARDS, DEEP, 56);
            Report.dueRun(new Trial().make(0, right), 0, BACKWARDS, DEEP, 7);
        });
    }

    private static void dueDepths(Trial x, int way, String[] words) {
        for (int depth = 0; depth <= 8; depth++) {
            int turns = 0;
            for (int i = 0; i < depth; i++) {
                turns += words[i % 3].startsWith("back") ? 1 : 0;
            }
            boolean forwardsBelow = (way == FORWARDS) == (turns % 2 == 0);
            x.fill(depth, 0);
            if (depth <= 6) {
                Report.dueRun(x, 0, way, DONE, 3 * depth + 1);
                Report.dueRegisters(x, depth, forwardsBelow ? 1 : -1);
            } else {
                Report.dueRun(x, 0, way, DEEP, 14);
                Report.dueRegisters(x, depth);
            }
        }
    }

    private static void failingAndTiredDeepDown(int way) {
        Trial x = new Trial().make(0, "r0 r0 n1 sub0 call0 seq n1 add0 seq n0 check if").make(1, goingDown("call1"));
        x.load(0, 6);
        Report.dueRun(x, 0, way, FAILED, 13);
        Report.dueRun(x, 1, way, DONE, 19);
        x.make(0, "r0 r0 n1 sub0 call0 seq n1 add0 seq call2 if");
        x.make(2, inAndOut(way, "r2 n0 =", "n0") + " n1 add2 skip loop");
        x.fill(5, 0);
        Report.dueRun(x, 0, way, TIRED, 300);
        x.load(0, 6);
        Report.dueRun(x, 0, way, DEEP, 13);
        Report.dueRun(x, 1, way, DONE, 19);
    }

    // ---- what is left

    private static void leftAsItWas() {
        for (int way : WAYS) {
            String named = way == FORWARDS ? "forwards" : "backwards";
            Report.sentence("a run that ends FAILED leaves registers and pile as they were, " + named,
                () -> dueAsItWas(way, "n0 check", "skip", FAILED, 1));
            Report.sentence("a run that ends TIRED leaves registers and pile as they were, " + named,
                () -> dueAsItWas(way, "call0", COUNTING, TIRED, 300));
            Report.sentence("a run that ends DEEP leaves registers and pile as they were, " + named,
                () -> dueAsItWas(way, "call0", "call0", DEEP, 7));
            Report.sentence("it leaves a full pile as it was, " + named, () -> {
                Trial x = withFullPile(inTurn(way, "pop1 n5 add1 seq push1 seq", "n0 check"));
                Report.dueRun(x, 1, way, FAILED, 4);
                Report.dueRegisters(x);
                dueFullPile(x);
            });
            Report.sentence("it leaves a pile as it was that it has emptied, " + named, () -> {
                String words = inTurn(way, inTurn(way, popping(way, 1), popping(way, 2)), popping(way, 3));
                Trial x = new Trial().pileUp(70, 80).make(1, words);
                Report.dueRun(x, 1, way, FAILED, 3);
                Report.dueRegisters(x);
                Report.duePile(x, 80, 70);
            });
            Report.sentence("it leaves an empty pile as it was that it has filled, " + named, () -> {
                Trial x = new Trial().make(2, pushing(way, 1) + (" " + pushing(way, 1) + " seq").repeat(6))
                    .make(1, "call2 call2 seq").fill(0, 6);
                Report.dueRun(x, 1, way, FAILED, 15);
                Report.dueRegisters(x, 0, 6);
                Report.duePile(x);
            });
            Report.sentence("it leaves what was there when it began, not when an earlier run did, " + named, () -> {
                Trial x = new Trial().pileUp(70).make(1, "n0 check").make(2, "n1 add1 push0 seq").fill(5);
                Report.dueRun(x, 1, way, FAILED, 1);
                Report.dueRun(x, 2, FORWARDS, DONE, 2);
                x.load(3, 9);
                Report.dueRun(x, 1, way, FAILED, 1);
                Report.dueRegisters(x, 0, 1, 0, 9);
                Report.duePile(x, 5, 70);
            });
        }
    }

    private static void dueAsItWas(int way, String ending, String zero, int how, int steps) {
        dueAsItWas(way, STIRRING_REGISTERS, ending, zero, how, Math.min(300, 7 + steps));
        dueAsItWas(way, STIRRING, ending, zero, how, Math.min(300, 9 + steps));
    }

    private static void dueAsItWas(int way, String stirring, String ending, String zero, int how, int steps) {
        int last = 400;
        int[] numbers = {0, 0, MAX, MIN, way == FORWARDS ? -1 : last, last};
        Trial x = new Trial().pileUp(70, 80).make(0, zero).make(2, stirring);
        x.make(1, inTurn(way, "call2", ending)).fill(numbers);
        for (int i = 0; i < 2; i++) {
            Report.dueRun(x, 1, way, how, steps);
            Report.dueRegisters(x, numbers);
            Report.duePile(x, 80, 70);
        }
        // Without that ending it does change them.
        due("stirred", x.run(2, way), DONE);
        Report.must("register 5 is changed", x.look(5) != last);
        Report.must("the pile or register 0 is changed", x.look(0) != 0 || x.onPile(way == FORWARDS ? 1 : 0) != 80);
    }

    private static void done() {
        Report.sentence("else it is DONE, and what it has changed stays", () -> {
            Trial x = new Trial().pileUp(70, 80).make(2, STIRRING).fill(0, 0, 10, 20, 30, 40);
            Report.dueRun(x, 2, FORWARDS, DONE, 8);
            Report.dueRegisters(x, 0, 0, 17, 20 ^ 9, 31, 41);
            Report.duePile(x, 0, 85, 70);
            Report.dueRun(x, 2, BACKWARDS, DONE, 8);
            Report.dueRegisters(x, 0, 0, 10, 20, 30, 40);
            Report.duePile(x, 80, 70);
            Report.dueRun(x, 2, BACKWARDS, DONE, 8);
            Report.dueRegisters(x, 0, 80, 3, 20 ^ 9, 29, 39);
            Report.duePile(x, 65);
            Report.dueRun(x, 2, FORWARDS, DONE, 8);
            Report.dueRegisters(x, 0, 0, 10, 20, 30, 40);
            Report.duePile(x, 80, 70);
        });
    }
}
