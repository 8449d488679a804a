import java.util.HashMap;
import java.util.List;
import java.util.Map;
import java.util.function.Function;
import java.util.function.Supplier;

/**
 * Each refused call of the document: it answers the code named, the one that is tested first if
 * there are two, and changes nothing. And no call throws.
 */
public final class RefusalTest {
    private static final int BAD_ARG = -1;
    private static final int FULL = -2;
    private static final int TOO_FEW = -3;
    private static final int NONE = -4;
    private static final int LEAST = Integer.MIN_VALUE;
    private static final int MOST = Integer.MAX_VALUE;

    /** What is neither a pattern nor an unknown. */
    private static final int[] NOT_0_TO_2 = {-1, 3, LEAST, MOST};
    private static final int[] NOT_0_OR_1 = {-1, 2, LEAST, MOST};

    private static final String SIZE_6 = "01.1.0.0.1.";

    /** How to make an object, and how many patterns, demands and bounds it has then. */
    private record State(Supplier<WordSolver> make, int stacked, int demands, int bounds) {
        String trace(WordSolver x) {
            return Trace.of(x, stacked, demands, bounds);
        }
    }

    private static final State NEW = new State(WordSolver::new, 0, 0, 0);
    private static final State SOME = new State(RefusalTest::withSome, 2, 2, 1);
    private static final State ALL_FULL = new State(RefusalTest::withAllFull, 5, 6, 3);
    private static final State EMPTIED = new State(RefusalTest::emptied, 0, 0, 0);
    private static final State UNSOLVED = new State(RefusalTest::withoutSolution, 2, 2, 2);

    private static final Map<State, String> TRACES = new HashMap<>();

    public static void main(String[] args) {
        statesAreWhatTheyAreCalled();
        simple();
        pairOfTooFew();
        pairTooGreat();
        many();
        place();
        askedOfAPattern();
        words();
        same();
        sign();
        demand();
        bound();
        drop();
        lengthAndLetter();
        lengthsAndDifferent();
        noCallThrows();
        Due.end();
    }

    /** Something of everything, and room for more. */
    private static WordSolver withSome() {
        WordSolver x = Make.placed("0?*.", "?*1.", "01.*");
        Make.push(x, "01." + "10|1*.");
        Make.demand(x, "01", 0, 1);
        Make.demand(x, "2", 1, 0);
        x.bound(1, 1, 1, 5);
        x.sign(0);
        x.sign(4);
        return x;
    }

    /** No room for anything, and solutions all the same. */
    private static WordSolver withAllFull() {
        WordSolver x = Make.placed("0?*.", "?*1.", "01.*");
        Make.push(x, "e" + "0*" + "01." + SIZE_6 + "1");
        Make.demand(x, "01", 0, 1);
        Make.demand(x, "2", 1, 0);
        Make.demand(x, "2112", 2, 0);
        Make.demand(x, "34", 2, 1);
        Make.demand(x, "20", 1, 1);
        Make.demand(x, "", 0, 0);
        x.bound(1, 1, 1, 5);
        x.bound(-1, 0, 0, -1);
        x.bound(0, 3, -2, 3);
        x.sign(0);
        x.sign(1);
        x.sign(2);
        x.sign(4);
        return x;
    }

    /** Nothing is left, but much was there. */
    private static WordSolver emptied() {
        WordSolver x = withAllFull();
        for (int n = 0; n < 5; n++) {
            x.place(n % 3);
        }
        for (int n = 0; n < 6; n++) {
            x.drop(0);
        }
        for (int n = 0; n < 3; n++) {
            x.drop(1);
        }
        x.demand(0, 1);
        x.drop(0);
        return x;
    }

    private static WordSolver withoutSolution() {
        WordSolver x = withSome();
        x.bound(0, 0, 0, -1);
        return x;
    }

    private static State withStack(int stacked, String marks) {
        return new State(() -> {
            WordSolver x = new WordSolver();
            Make.push(x, marks);
            return x;
        }, stacked, 0, 0);
    }

    /** One pattern of size 6 on the stack, and another one that was above it is in place. */
    private static WordSolver withOneOfTwo() {
        WordSolver x = new WordSolver();
        Make.push(x, SIZE_6 + SIZE_6);
        x.place(1);
        return x;
    }

    private static void refused(String call, State state, Function<WordSolver, Object> calling, Object due) {
        WordSolver x = state.make().get();
        Due.alike(call, calling.apply(x), due);
        String before = TRACES.computeIfAbsent(state, s -> s.trace(s.make().get()));
        Due.is(call + " changes nothing", state.trace(x).equals(before), true);
    }

    private static void statesAreWhatTheyAreCalled() {
        for (State state : List.of(NEW, SOME, ALL_FULL, EMPTIED, UNSOLVED)) {
            boolean isSolved = state.make().get().solutions() > 0;
            Due.is("a state has solutions", isSolved, state != UNSOLVED);
            String trace = state.trace(state.make().get());
            Due.is("a state has what it is said to have", trace.contains(" -"), false);
            Due.is("a state has no more than it is said to have",
                trace.endsWith("bound 1\ndemand 2\nsign 1\nsimple 1\n"), true);
        }
    }

    /** Promise 2: "what not 0 to 3 answers BAD_ARG; the stack holds 5, FULL." */
    private static void simple() {
        for (int what : new int[] {-1, 4, LEAST, MOST}) {
            refused("simple(" + what + ")", NEW, x -> x.simple(what), BAD_ARG);
            refused("simple(" + what + ") beside others", SOME, x -> x.simple(what), BAD_ARG);
            refused("simple(" + what + ") on 5", ALL_FULL, x -> x.simple(what), BAD_ARG);
        }
        for (int what = 0; what <= 3; what++) {
            int w = what;
            refused("simple(" + what + ") on 5", ALL_FULL, x -> x.simple(w), FULL);
        }
        refused("simple(3) on 5 without size", withStack(5, "eeeee"), x -> x.simple(3), FULL);
    }

    /** Promises 3 and 4: "TOO_FEW", before the size is looked at. */
    private static void pairOfTooFew() {
        State one = withStack(1, "1");
        State greatOne = withStack(1, SIZE_6);
        State oneOfTwo = new State(RefusalTest::withOneOfTwo, 1, 0, 0);
        for (State state : List.of(NEW, EMPTIED, one, greatOne, oneOfTwo)) {
            refused("then() of too few", state, WordSolver::then, TOO_FEW);
            refused("or() of too few", state, WordSolver::or, TOO_FEW);
        }
    }

    /** Promises 3 and 4: "its size would be more than 6, FULL", however the size is made up. */
    private static void pairTooGreat() {
        String size3 = "0?.1|";
        String size4 = "0?.1|1.*";
        for (String marks : new String[] {SIZE_6 + "0", "0" + SIZE_6, SIZE_6 + "?", size4 + size3,
                size3 + size4, SIZE_6 + SIZE_6, SIZE_6 + "*" + "1*"}) {
            State state = withStack(2, marks);
            refused("then() on " + marks, state, WordSolver::then, FULL);
            refused("or() on " + marks, state, WordSolver::or, FULL);
        }
        refused("then() on all full", ALL_FULL, WordSolver::then, FULL);
        refused("or() on all full", ALL_FULL, WordSolver::or, FULL);
    }

    /** Promise 5: "TOO_FEW if there is none." */
    private static void many() {
        refused("many() of none", NEW, WordSolver::many, TOO_FEW);
        refused("many() of none any more", EMPTIED, WordSolver::many, TOO_FEW);
    }

    /** Promise 6: "TOO_FEW if there is none", and k not 0 to 2 before it. */
    private static void place() {
        for (int k = 0; k <= 2; k++) {
            int right = k;
            refused("place(" + k + ") of none", NEW, x -> x.place(right), TOO_FEW);
            refused("place(" + k + ") of none any more", EMPTIED, x -> x.place(right), TOO_FEW);
        }
        for (int k : NOT_0_TO_2) {
            refused("place(" + k + ")", SOME, x -> x.place(k), BAD_ARG);
            refused("place(" + k + ") of none", NEW, x -> x.place(k), BAD_ARG);
            refused("place(" + k + ") of none any more", EMPTIED, x -> x.place(k), BAD_ARG);
        }
    }

    /** Promises 7, 10 and 11, and "one that is not 0 to 2 answers BAD_ARG (or false)". */
    private static void askedOfAPattern() {
        for (int k : NOT_0_TO_2) {
            refused("size(" + k + ")", SOME, x -> x.size(k), BAD_ARG);
            refused("endless(" + k + ")", SOME, x -> x.endless(k), false);
            refused("rests(" + k + ")", SOME, x -> x.rests(k), BAD_ARG);
        }
    }

    /** Promise 8: "BAD_ARG if n is not 0 to 20." */
    private static void words() {
        int[] notLengths = {-1, 21, 32, LEAST, MOST};
        for (int n : notLengths) {
            for (int k = 0; k <= 2; k++) {
                int right = k;
                refused("words(" + k + ", " + n + ")", SOME, x -> x.words(right, n), BAD_ARG);
            }
        }
        for (int k : NOT_0_TO_2) {
            for (int n : new int[] {0, 20, -1, 21}) {
                refused("words(" + k + ", " + n + ")", SOME, x -> x.words(k, n), BAD_ARG);
            }
        }
    }

    /** Promise 9, and "one that is not 0 to 2 answers ... false", be it one or both. */
    private static void same() {
        for (int j : NOT_0_TO_2) {
            for (int k = 0; k <= 2; k++) {
                int right = k;
                refused("same(" + k + ", " + j + ")", NEW, x -> x.same(right, j), false);
                refused("same(" + j + ", " + k + ")", NEW, x -> x.same(j, right), false);
            }
            refused("same(" + j + ", " + j + ")", SOME, x -> x.same(j, j), false);
        }
        refused("same(-1, 3)", SOME, x -> x.same(-1, 3), false);
    }

    /** Promise 12: "others answer BAD_ARG; it has 4, FULL." */
    private static void sign() {
        for (int s : new int[] {-1, 5, LEAST, MOST}) {
            refused("sign(" + s + ")", NEW, x -> x.sign(s), BAD_ARG);
            refused("sign(" + s + ") behind others", SOME, x -> x.sign(s), BAD_ARG);
            refused("sign(" + s + ") behind 4", ALL_FULL, x -> x.sign(s), BAD_ARG);
        }
        for (int s = 0; s <= 4; s++) {
            int right = s;
            refused("sign(" + s + ") behind 4", ALL_FULL, x -> x.sign(right), FULL);
        }
    }

    /** Promise 13: "kept not 0 or 1 answers BAD_ARG; 6 demands, FULL", and k before anything. */
    private static void demand() {
        for (int kept : NOT_0_OR_1) {
            refused("demand(0, " + kept + ")", SOME, x -> x.demand(0, kept), BAD_ARG);
            refused("demand(2, " + kept + ") of no sign", NEW, x -> x.demand(2, kept), BAD_ARG);
            refused("demand(0, " + kept + ") behind 6", ALL_FULL, x -> x.demand(0, kept), BAD_ARG);
        }
        for (int k : NOT_0_TO_2) {
            for (int kept = 0; kept <= 2; kept++) {
                int any = kept;
                String call = "demand(" + k + ", " + kept + ")";
                refused(call, SOME, x -> x.demand(k, any), BAD_ARG);
                refused(call + " behind 6", ALL_FULL, x -> x.demand(k, any), BAD_ARG);
            }
        }
        for (int k = 0; k <= 2; k++) {
            int right = k;
            refused("demand(" + k + ", 0) behind 6", ALL_FULL, x -> x.demand(right, 0), FULL);
            refused("demand(" + k + ", 1) behind 6", ALL_FULL, x -> x.demand(right, 1), FULL);
        }
    }

    /** Promise 14: "a, b or c not -3 to 3, or d not -20 to 20, answers BAD_ARG; 3 bounds, FULL." */
    private static void bound() {
        for (State state : List.of(SOME, ALL_FULL)) {
            for (int w : new int[] {-4, 4, LEAST, MOST}) {
                refused("bound with a = " + w, state, x -> x.bound(w, 1, 1, 0), BAD_ARG);
                refused("bound with b = " + w, state, x -> x.bound(1, w, 1, 0), BAD_ARG);
                refused("bound with c = " + w, state, x -> x.bound(1, 1, w, 0), BAD_ARG);
            }
            for (int w : new int[] {-21, 21, LEAST, MOST}) {
                refused("bound with d = " + w, state, x -> x.bound(1, 1, 1, w), BAD_ARG);
            }
            refused("bound with all wrong", state, x -> x.bound(-4, 4, -4, 21), BAD_ARG);
        }
        refused("bound behind 3", ALL_FULL, x -> x.bound(0, 0, 0, 0), FULL);
        refused("bound behind 3", ALL_FULL, x -> x.bound(-3, -3, -3, -20), FULL);
        refused("bound behind 3", ALL_FULL, x -> x.bound(3, 3, 3, 20), FULL);
    }

    /** Promise 15: "what not 0 or 1 answers BAD_ARG; NONE if there is none." */
    private static void drop() {
        for (int what : NOT_0_OR_1) {
            refused("drop(" + what + ")", SOME, x -> x.drop(what), BAD_ARG);
            refused("drop(" + what + ") of none", NEW, x -> x.drop(what), BAD_ARG);
            refused("drop(" + what + ") of none any more", EMPTIED, x -> x.drop(what), BAD_ARG);
        }
        for (State state : List.of(NEW, EMPTIED)) {
            refused("drop(0) of none", state, x -> x.drop(0), NONE);
            refused("drop(1) of none", state, x -> x.drop(1), NONE);
        }
        State demandAlone = new State(() -> {
            WordSolver x = Make.placed("0*");
            Make.demand(x, "0", 0, 1);
            return x;
        }, 0, 1, 0);
        State boundAlone = new State(() -> {
            WordSolver x = new WordSolver();
            x.bound(1, 0, 0, 1);
            return x;
        }, 0, 0, 1);
        State signsAlone = new State(() -> {
            WordSolver x = new WordSolver();
            x.sign(0);
            x.sign(4);
            return x;
        }, 0, 0, 0);
        refused("drop(1) beside a demand", demandAlone, x -> x.drop(1), NONE);
        refused("drop(0) beside a bound", boundAlone, x -> x.drop(0), NONE);
        refused("drop(0) beside signs", signsAlone, x -> x.drop(0), NONE);
        refused("drop(1) beside signs", signsAlone, x -> x.drop(1), NONE);
    }

    /** Promises 17 and 18: "NONE if there is no solution", "NONE if there is none", and i before. */
    private static void lengthAndLetter() {
        for (int i = 0; i <= 2; i++) {
            int right = i;
            refused("length(" + i + ") unsolved", UNSOLVED, x -> x.length(right), NONE);
            for (int n : new int[] {0, 2, -1, LEAST, MOST}) {
                String call = "letter(" + i + ", " + n + ")";
                refused(call + " unsolved", UNSOLVED, x -> x.letter(right, n), NONE);
                refused(call + " of no letters", NEW, x -> x.letter(right, n), NONE);
            }
        }
        for (int i : NOT_0_TO_2) {
            refused("length(" + i + ")", SOME, x -> x.length(i), BAD_ARG);
            refused("length(" + i + ") unsolved", UNSOLVED, x -> x.length(i), BAD_ARG);
            for (int n : new int[] {0, -1, 3}) {
                refused("letter(" + i + ", " + n + ")", SOME, x -> x.letter(i, n), BAD_ARG);
                refused("letter(" + i + ", " + n + ") unsolved", UNSOLVED, x -> x.letter(i, n), BAD_ARG);
            }
        }
    }

    /** Promises 19 and 20, and "one that is not 0 to 2 answers BAD_ARG ... before anything else". */
    private static void lengthsAndDifferent() {
        for (int i : NOT_0_TO_2) {
            for (State state : List.of(SOME, UNSOLVED)) {
                refused("lengths(" + i + ")", state, x -> x.lengths(i), BAD_ARG);
                refused("different(" + i + ")", state, x -> x.different(i), BAD_ARG);
            }
        }
    }

    /** "No call ever throws": not for any arguments near to or far from what is right. */
    private static void noCallThrows() {
        int[] all = {LEAST, LEAST + 1, -65, -32, -21, -4, -1, 0, 1, 2, 3, 4, 5, 6, 9, 10, 20, 21, 31,
            32, 33, 64, 65, 195, MOST - 1, MOST};
        for (State state : List.of(NEW, SOME, ALL_FULL, EMPTIED, UNSOLVED)) {
            for (int a : all) {
                callWithOne(state.make().get(), a);
                for (int b : all) {
                    callWithTwo(state.make().get(), a, b);
                }
            }
            callWithNone(state.make().get());
        }
    }

    private static void callWithOne(WordSolver x, int a) {
        x.size(a);
        x.endless(a);
        x.rests(a);
        x.length(a);
        x.lengths(a);
        x.different(a);
        x.ofLength(a);
        x.sign(a);
        x.simple(a);
        x.place(a);
        x.drop(a);
        x.bound(a, a, a, a);
    }

    private static void callWithTwo(WordSolver x, int a, int b) {
        x.words(a, b);
        x.same(a, b);
        x.letter(a, b);
        x.demand(a, b);
        x.bound(a, b, a, b);
        x.bound(b, a, b, a);
    }

    /** Again and again, until there is nothing left to take. */
    private static void callWithNone(WordSolver x) {
        for (int n = 0; n < 7; n++) {
            x.many();
            x.then();
            x.or();
            x.place(n % 3);
            x.drop(n % 2);
            x.solutions();
        }
    }
}
