/** Promises 12 to 21: terms, demands and bounds, and the solutions that keep them. */
public final class SolutionTest {
    private static final int BAD_ARG = -1;
    private static final int FULL = -2;
    private static final int NONE = -4;
    private static final int[] OUTSIDE = {-1, 3, 4, 64, Integer.MIN_VALUE, Integer.MAX_VALUE};

    public static void main(String[] args) {
        newObject();
        sign();
        demand();
        demandsOnWhatIsInPlace();
        bound();
        drop();
        solutions();
        first();
        lengthsAndDifferent();
        ends();
        ofLength();
        wrongUnknowns();
        Due.end();
    }

    private static void newObject() {
        WordSolver x = new WordSolver();
        Due.eq("new: solutions()", x.solutions(), 3375);
        for (int i = 0; i < 3; i++) {
            Due.eq("new: length", x.length(i), 0);
            Due.eq("new: letter", x.letter(i, 0), NONE);
            Due.eq("new: lengths", x.lengths(i), 15);
            Due.eq("new: different", x.different(i), 15);
        }
    }

    private static void sign() {
        WordSolver x = new WordSolver();
        int[] wrong = {-1, 5, Integer.MIN_VALUE, Integer.MAX_VALUE};
        for (int s : wrong) {
            Due.eq("sign wrong", x.sign(s), BAD_ARG);
        }
        for (int n = 1; n <= 4; n++) {
            Due.eq("sign up to the limit", x.sign(n), n);
        }
        Due.eq("sign above the limit", x.sign(0), FULL);
        for (int s : wrong) {
            Due.eq("sign wrong above the limit", x.sign(s), BAD_ARG);
        }
        Due.eq("solutions before the demand", x.solutions(), 3375);
        Make.push(x, "11.0.1.");
        x.place(0);
        Due.eq("demand takes the signs", x.demand(0, 1), 1);
        Due.eq("u v 0 1 is 1101", x.solutions(), 15 * 3);
        Due.eq("sign after the demand", x.sign(0), 1);
    }

    private static void demand() {
        WordSolver x = Make.placed("01.");
        x.sign(0);
        for (int k : OUTSIDE) {
            Due.eq("demand outside", x.demand(k, 1), BAD_ARG);
            Due.eq("demand outside", x.demand(k, 2), BAD_ARG);
        }
        int[] wrong = {-1, 2, Integer.MIN_VALUE, Integer.MAX_VALUE};
        for (int kept : wrong) {
            Due.eq("demand with kept wrong", x.demand(0, kept), BAD_ARG);
        }
        Due.eq("a refused demand leaves the term", x.sign(1), 2);
        Due.eq("demand", x.demand(0, 1), 1);
        Due.eq("x0 x1 is 01", x.solutions(), 3 * 15);
        Due.eq("demand of no sign, not kept", x.demand(0, 0), 2);
        Due.eq("no letters are not 01", x.solutions(), 3 * 15);
        Due.eq("demand of no sign", x.demand(1, 1), 3);
        Due.eq("no letters are of empty", x.solutions(), 3 * 15);
        Due.eq("demand of an unknown, not kept", Make.demand(x, "0", 1, 0), 4);
        Due.eq("x0 is not empty", x.solutions(), 2 * 15);
        Due.eq("demand of no sign", x.demand(0, 1), 5);
        Due.eq("no letters are not of 01", x.solutions(), 0);
        Due.eq("sixth demand", x.demand(2, 1), 6);
        Due.eq("a term for the seventh", x.sign(0), 1);
        for (int kept : wrong) {
            Due.eq("demand wrong above the limit", x.demand(0, kept), BAD_ARG);
        }
        Due.eq("demand above the limit", x.demand(0, 1), FULL);
        Due.eq("demand above the limit", x.demand(3, 1), BAD_ARG);
        Due.eq("a full one leaves the term", x.sign(1), 2);
        x.drop(0);
        x.drop(0);
        Due.eq("demand again", x.demand(0, 0), 5);
        Due.eq("x0 x1 is and is not 01", x.solutions(), 0);
    }

    private static void demandsOnWhatIsInPlace() {
        WordSolver x = Make.placed("0*", "1*");
        Make.demand(x, "0120", 0, 1);
        Make.demand(x, "22", 1, 0);
        Due.eq("of 0s alone, x2 not of 1s", x.solutions(), 4 * 4 * 3);
        Make.push(x, "?*");
        x.place(0);
        Due.eq("another pattern in place 0", x.solutions(), 15 * 15 * 11);
        Make.push(x, "?*");
        x.place(1);
        Due.eq("another pattern in place 1", x.solutions(), 0);
        Make.push(x, "0");
        Due.eq("on the stack alone", x.solutions(), 0);
        x.place(1);
        Due.eq("another pattern in place 1", x.solutions(), 3375);
        WordSolver y = Make.placed("??.?.?.?.?.");
        Make.demand(y, "0000", 0, 1);
        Due.eq("four times a word is never of 6 letters", y.solutions(), 0);
        y.drop(0);
        Make.demand(y, "0101", 0, 1);
        Due.eq("twice two words of 3 letters in all", y.solutions(), 15 * (8 + 8 + 8 + 8));
        WordSolver z = Make.placed("00.0.00.0..*");
        Make.demand(z, "0000", 0, 1);
        Due.eq("twelve letters", z.solutions(), 2 * 225);
        Make.demand(z, "3333", 0, 0);
        Due.eq("four letters", z.solutions(), 2 * 225);
    }

    private static void bound() {
        WordSolver x = new WordSolver();
        int[] wrong = {-4, 4, Integer.MIN_VALUE, Integer.MAX_VALUE};
        int[] wrongSums = {-21, 21, Integer.MIN_VALUE, Integer.MAX_VALUE};
        for (int round = 0; round < 2; round++) {
            for (int w : wrong) {
                Due.eq("bound with a wrong", x.bound(w, 0, 0, 0), BAD_ARG);
                Due.eq("bound with b wrong", x.bound(0, w, 0, 0), BAD_ARG);
                Due.eq("bound with c wrong", x.bound(0, 0, w, 0), BAD_ARG);
            }
            for (int w : wrongSums) {
                Due.eq("bound with d wrong", x.bound(0, 0, 0, w), BAD_ARG);
            }
            if (round == 0) {
                Due.eq("first bound", x.bound(3, 3, 3, 20), 1);
                Due.eq("sum of at most 6", x.solutions(), upTo(6));
                Due.eq("second bound", x.bound(-3, -3, -3, -20), 2);
                Due.eq("sum of at most 6 and at least 7", x.solutions(), 0);
                Due.eq("third bound", x.bound(0, 0, 0, 0), 3);
            }
        }
        Due.eq("fourth bound", x.bound(0, 0, 0, 0), FULL);
        x.drop(1);
        x.drop(1);
        x.drop(1);
        Due.eq("after a drop", x.bound(0, 0, 0, -1), 1);
        Due.eq("0 is not at most -1", x.solutions(), 0);
        x.drop(1);
        x.bound(0, 0, 0, 0);
        Due.eq("0 is at most 0", x.solutions(), 3375);
        x.bound(1, 0, 0, 1);
        Due.eq("a for unknown 0", x.lengths(0), 3);
        Due.eq("a not for unknown 1", x.lengths(1), 15);
        x.drop(1);
        x.bound(0, -1, 0, -2);
        Due.eq("b for unknown 1", x.lengths(1), 12);
        Due.eq("b not for unknown 2", x.lengths(2), 15);
        x.bound(0, 2, 3, 4);
        Due.eq("c for unknown 2", x.lengths(2), 1);
        Due.eq("two bounds for unknown 1", x.lengths(1), 4);
    }

    private static int ofSum(int sum) {
        int count = 0;
        for (int a = 0; a <= 3; a++) {
            for (int b = 0; b <= 3; b++) {
                int c = sum - a - b;
                count += c >= 0 && c <= 3 ? 1 << sum : 0;
            }
        }
        return count;
    }

    private static int upTo(int most) {
        int count = 0;
        for (int sum = 0; sum <= most; sum++) {
            count += ofSum(sum);
        }
        return count;
    }

    private static void drop() {
        WordSolver x = Make.placed("0", "1", "?");
        int[] wrong = {-1, 2, Integer.MIN_VALUE, Integer.MAX_VALUE};
        for (int what : wrong) {
            Due.eq("drop wrong", x.drop(what), BAD_ARG);
        }
        Due.eq("drop(0) of none", x.drop(0), NONE);
        Due.eq("drop(1) of none", x.drop(1), NONE);
        Make.demand(x, "0", 0, 1);
        Due.eq("drop(1) beside a demand", x.drop(1), NONE);
        Make.demand(x, "1", 1, 1);
        x.bound(0, 0, 1, 0);
        Due.eq("all kept", x.solutions(), 1);
        x.sign(2);
        for (int what : wrong) {
            Due.eq("drop wrong", x.drop(what), BAD_ARG);
        }
        Due.eq("drop(0)", x.drop(0), 1);
        Due.eq("the last demand is gone", x.solutions(), 15);
        Due.eq("drop leaves the term", x.sign(2), 2);
        Due.eq("drop(1)", x.drop(1), 0);
        Due.eq("the bound is gone", x.solutions(), 225);
        Due.eq("drop(1) of none", x.drop(1), NONE);
        Due.eq("drop(0)", x.drop(0), 0);
        Due.eq("drop(0) of none", x.drop(0), NONE);
        Due.eq("all gone", x.solutions(), 3375);
        x.bound(1, 0, 0, 0);
        Due.eq("drop(0) beside a bound", x.drop(0), NONE);
        x.bound(0, 1, 0, 0);
        Due.eq("drop(1)", x.drop(1), 1);
        Due.eq("the last bound is gone", x.solutions(), 225);
    }

    private static void solutions() {
        WordSolver x = Make.placed("01.*", "0?*.");
        Make.demand(x, "01", 0, 1);
        Due.eq("x0 x1 is of (01)*", x.solutions(), pairsOf01() * 15);
        Make.demand(x, "420", 1, 1);
        Due.eq("1 x2 x0 never begins with 0", x.solutions(), 0);
        x.drop(0);
        Make.demand(x, "324", 1, 0);
        Due.eq("0 x2 1 always begins with 0", x.solutions(), 0);
    }

    /** Splits of 0, 2, 4, 6 letters with at most 3 on each side. */
    private static int pairsOf01() {
        int count = 0;
        for (int all = 0; all <= 6; all += 2) {
            for (int left = 0; left <= 3; left++) {
                count += all - left >= 0 && all - left <= 3 ? 1 : 0;
            }
        }
        return count;
    }

    private static void firstIs(String what, WordSolver x, String... words) {
        for (int i = 0; i < 3; i++) {
            int length = words[i].length();
            Due.eq(what + ": length(" + i + ")", x.length(i), length);
            for (int n = 0; n < length; n++) {
                Due.eq(what + ": letter(" + i + ", " + n + ")", x.letter(i, n), words[i].charAt(n) - '0');
            }
            int[] noLetters = {-1, length, 3, 4, 31, 32, 33, Integer.MIN_VALUE, Integer.MAX_VALUE};
            for (int n : noLetters) {
                Due.eq(what + ": letter(" + i + ", " + n + ")", x.letter(i, n), NONE);
            }
        }
    }

    private static void first() {
        WordSolver x = Make.placed("01.1.", "??.?.");
        Make.demand(x, "012", 0, 1);
        firstIs("011 in three", x, "", "", "011");
        x.bound(1, -1, 0, 0);
        x.bound(0, 1, -1, 0);
        x.bound(-1, 0, 0, -1);
        firstIs("011 one by one", x, "0", "1", "1");
        WordSolver y = Make.placed("00.1.", "??.?.");
        Make.demand(y, "0", 1, 1);
        Make.demand(y, "1", 1, 1);
        Make.demand(y, "0", 0, 0);
        Make.demand(y, "1", 0, 0);
        firstIs("three letters, but not 001", y, "000", "000", "");
        Make.demand(y, "4012", 2, 0);
        Make.push(y, "00.0.");
        y.place(0);
        firstIs("three letters, but not 000", y, "001", "001", "");
        WordSolver z = Make.placed("00.11.|1.", "10.1.");
        Make.demand(z, "0", 0, 1);
        Make.demand(z, "1", 1, 1);
        firstIs("letters in their order", z, "001", "101", "");
        WordSolver v = Make.placed("01.00.1.|");
        Make.demand(v, "01", 0, 1);
        v.bound(-1, 1, 0, 0);
        firstIs("the least sum goes before the first word", v, "0", "1", "");
        v.drop(1);
        Make.demand(v, "23", 0, 0);
        firstIs("the shorter word for 0", v, "", "01", "");
        WordSolver w = Make.placed("?", "10.");
        Make.demand(w, "01", 0, 1);
        Make.demand(w, "20", 0, 1);
        firstIs("the least sum takes 0 alone", w, "0", "", "");
        w.bound(1, 0, 0, 0);
        firstIs("the first words for 1 and 2", w, "", "0", "0");
        w.bound(0, 0, 0, -1);
        for (int i = 0; i < 3; i++) {
            Due.eq("length without a solution", w.length(i), NONE);
            Due.eq("letter without a solution", w.letter(i, 0), NONE);
            Due.eq("letter without a solution", w.letter(i, -1), NONE);
        }
    }

    private static void lengthsAndDifferent() {
        WordSolver x = Make.placed("0*", "e00.|", "1");
        Make.demand(x, "0", 0, 1);
        Make.demand(x, "1", 1, 1);
        Make.demand(x, "23", 0, 0);
        int[] lengths = {15, 5, 14};
        int[] different = {4, 2, 11};
        for (int i = 0; i < 3; i++) {
            Due.eq("lengths(" + i + ")", x.lengths(i), lengths[i]);
            Due.eq("different(" + i + ")", x.different(i), different[i]);
        }
        Make.demand(x, "2", 2, 1);
        Due.eq("lengths of one word", x.lengths(2), 2);
        Due.eq("different of one word", x.different(2), 1);
        Make.demand(x, "", 0, 0);
        for (int i = 0; i < 3; i++) {
            Due.eq("lengths without a solution", x.lengths(i), 0);
            Due.eq("different without a solution", x.different(i), 0);
        }
    }

    /** Where the least or the greatest trial is all that counts. */
    private static void ends() {
        WordSolver x = new WordSolver();
        x.bound(1, 1, 1, 0);
        Due.eq("only empty words", x.solutions(), 1);
        for (int i = 0; i < 3; i++) {
            Due.eq("only empty words: lengths", x.lengths(i), 1);
            Due.eq("only empty words: different", x.different(i), 1);
        }
        firstIs("only empty words", x, "", "", "");
        x.drop(1);
        x.bound(-1, -1, -1, -9);
        Due.eq("only words of 3", x.solutions(), 512);
        firstIs("only words of 3", x, "000", "000", "000");
        Make.push(x, "11.1.");
        x.place(0);
        for (int i = 0; i < 3; i++) {
            Make.demand(x, "" + i, 0, 1);
        }
        Due.eq("only 111", x.solutions(), 1);
        firstIs("only 111", x, "111", "111", "111");
        WordSolver y = Make.placed("??.?.");
        Make.demand(y, "0", 0, 0);
        y.bound(-1, 0, 0, -3);
        Due.eq("nothing but words of 3 has 3 letters or more", y.solutions(), 0);
        Due.eq("nothing but words of 3 has 3 letters or more", y.lengths(0), 0);
        Due.eq("nothing but words of 3 has 3 letters or more", y.different(1), 0);
        Due.eq("nothing but words of 3 has 3 letters or more", y.length(0), NONE);
    }

    private static void ofLength() {
        WordSolver x = new WordSolver();
        for (int n = -1; n <= 10; n++) {
            Due.eq("ofLength(" + n + ")", x.ofLength(n), n < 0 ? 0 : ofSum(n));
        }
        Due.eq("ofLength far out", x.ofLength(Integer.MIN_VALUE), 0);
        Due.eq("ofLength far out", x.ofLength(Integer.MAX_VALUE), 0);
        Make.push(x, "0*");
        x.place(0);
        Make.demand(x, "012", 0, 1);
        int[] due = {1, 3, 6, 10, 12, 12, 10, 6, 3, 1};
        for (int n = 0; n < due.length; n++) {
            Due.eq("ofLength(" + n + ") of 0s", x.ofLength(n), due[n]);
        }
        x.bound(0, 0, 0, -1);
        Due.eq("ofLength without a solution", x.ofLength(0), 0);
    }

    private static void wrongUnknowns() {
        WordSolver x = new WordSolver();
        for (int round = 0; round < 2; round++) {
            for (int i : OUTSIDE) {
                Due.eq("length outside", x.length(i), BAD_ARG);
                Due.eq("letter outside", x.letter(i, 0), BAD_ARG);
                Due.eq("letter outside", x.letter(i, -1), BAD_ARG);
                Due.eq("lengths outside", x.lengths(i), BAD_ARG);
                Due.eq("different outside", x.different(i), BAD_ARG);
            }
            x.bound(0, 0, 0, -1);
        }
    }
}
