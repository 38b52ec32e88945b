/**
 * An object under test. It counts its calls, as the document says nothing of those after the 512th,
 * and it takes rows of words, one for each call that puts a statement together.
 */
final class Trial {
    private static final int CALLS = 512;
    private static final String OPERATIONS = "+-*^&<=";

    private final BackAndForth it = new BackAndForth();
    private int calls;

    private BackAndForth next() {
        calls++;
        if (calls > CALLS) {
            throw new IllegalStateException("the test makes more than " + CALLS + " calls on one object");
        }
        return it;
    }

    int callsLeft() {
        return CALLS - calls;
    }

    int number(int n) {
        return next().number(n);
    }

    int register(int r) {
        return next().register(r);
    }

    int apply(int op) {
        return next().apply(op);
    }

    int simple(int op, int r, int n) {
        return next().simple(op, r, n);
    }

    int update(int op, int r) {
        return next().update(op, r);
    }

    int seq() {
        return next().seq();
    }

    int tested(int op) {
        return next().tested(op);
    }

    int discard() {
        return next().discard();
    }

    int procedure(int p) {
        return next().procedure(p);
    }

    int load(int r, int v) {
        return next().load(r, v);
    }

    int run(int p, int backwards) {
        return next().run(p, backwards);
    }

    int outcome() {
        return next().outcome();
    }

    int look(int r) {
        return next().look(r);
    }

    int pile() {
        return next().pile();
    }

    int onPile(int i) {
        return next().onPile(i);
    }

    int steps() {
        return next().steps();
    }

    /**
     * The calls that the words stand for, in their order: n-7 is number(-7), r2 register(2), one of
     * + - * ^ &amp; &lt; = an apply; skip, swap01, push0, pop0, call0, back0 a simple; add0, sub0,
     * xor0, check an update; then seq, if and loop. Each of them must be taken.
     */
    Trial put(String words) {
        for (String word : words.trim().split(" +")) {
            int answer = say(word);
            Report.must(word + " of '" + words + "' is taken, not " + answer, answer > 0);
        }
        return this;
    }

    /** The words become procedure p. */
    Trial make(int p, String words) {
        return put(words).become(p);
    }

    /** What has been put together becomes procedure p. */
    Trial become(int p) {
        int answer = procedure(p);
        Report.must("this becomes procedure " + p + ", not " + answer, answer > 0);
        return this;
    }

    /** Registers 0, 1 and so on become these. */
    Trial fill(int... values) {
        for (int r = 0; r < values.length; r++) {
            Report.due("load(" + r + ", " + values[r] + ")", load(r, values[r]), 0);
        }
        return this;
    }

    /** These come on the pile, the last one on top. Procedure 0 and register 0 are used for it. */
    Trial pileUp(int... numbers) {
        make(0, "push0");
        for (int number : numbers) {
            load(0, number);
            Report.due("run of push0", run(0, 0), BackAndForth.DONE);
        }
        return this;
    }

    private int say(String word) {
        int length = word.length();
        int last = digit(word, length - 1);
        switch (word.replaceAll("-?[0-9]+$", "")) {
            case "n": return number(Integer.parseInt(word.substring(1)));
            case "r": return register(last);
            case "skip": return simple(0, 0, 0);
            case "swap": return simple(1, digit(word, length - 2), last);
            case "push": return simple(2, last, 0);
            case "pop": return simple(3, last, 0);
            case "call": return simple(4, 0, last);
            case "back": return simple(5, 0, last);
            case "add": return update(0, last);
            case "sub": return update(1, last);
            case "xor": return update(2, last);
            case "check": return update(3, 0);
            case "seq": return seq();
            case "if": return tested(0);
            case "loop": return tested(1);
            default: return apply(operation(word));
        }
    }

    private static int digit(String word, int place) {
        return place < 0 ? -1 : Character.digit(word.charAt(place), 10);
    }

    private static int operation(String word) {
        int op = word.length() == 1 ? OPERATIONS.indexOf(word) : -1;
        if (op < 0) {
            throw new IllegalArgumentException("the test has an unknown word: " + word);
        }
        return op;
    }
}
