/** Promises 1 to 11: the stack of patterns, and the sets of words of the patterns in place. */
public final class PatternTest {
    private static final int BAD_ARG = -1;
    private static final int FULL = -2;
    private static final int TOO_FEW = -3;
    private static final int[] OUTSIDE = {-1, 3, 4, 64, Integer.MIN_VALUE, Integer.MAX_VALUE};

    public static void main(String[] args) {
        newObject();
        simple();
        thenAndOr();
        many();
        place();
        size();
        words();
        same();
        endless();
        rests();
        Due.end();
    }

    private static void newObject() {
        WordSolver x = new WordSolver();
        Due.eq("new: many()", x.many(), TOO_FEW);
        Due.eq("new: then()", x.then(), TOO_FEW);
        for (int k = 0; k < 3; k++) {
            Due.eq("new: size", x.size(k), 0);
            Due.eq("new: words of length 0", x.words(k, 0), 1);
            Due.eq("new: words of length 1", x.words(k, 1), 0);
            Due.is("new: same", x.same(k, (k + 1) % 3), true);
            Due.is("new: endless", x.endless(k), false);
            Due.eq("new: rests", x.rests(k), 2);
        }
        Due.eq("new: drop(0)", x.drop(0), -4);
        Due.eq("new: drop(1)", x.drop(1), -4);
        Due.eq("new: sign(0)", x.sign(0), 1);
        Make.push(x, "0*");
        x.place(1);
        WordSolver y = new WordSolver();
        Due.eq("new beside another: size(1)", y.size(1), 0);
        Due.eq("new beside another: sign(0)", y.sign(0), 1);
    }

    private static void simple() {
        String[] marks = {"0", "1", "?", "e"};
        int[] ofOne = {1, 1, 2, 0};
        for (int what = 0; what < 4; what++) {
            WordSolver x = new WordSolver();
            Due.eq("simple(" + what + ")", x.simple(what), 1);
            x.place(0);
            Due.eq("words of none", x.words(0, 0), what == 3 ? 1 : 0);
            Due.eq("words of one", x.words(0, 1), ofOne[what]);
            Due.eq("words of two", x.words(0, 2), 0);
            for (int other = 0; other < 4; other++) {
                Make.push(x, marks[other]);
                x.place(1);
                Due.is("simple " + what + " and " + other, x.same(0, 1), what == other);
            }
        }
        WordSolver x = new WordSolver();
        for (int n = 1; n <= 5; n++) {
            Due.eq("simple up to the limit", x.simple(3), n);
        }
        Due.eq("simple on a full stack", x.simple(3), FULL);
        Due.eq("simple wrong on a full stack", x.simple(4), BAD_ARG);
        Due.eq("simple wrong on a full stack", x.simple(-1), BAD_ARG);
        Due.eq("a refused push changes nothing", x.then(), 4);
        Due.eq("simple wrong", x.simple(Integer.MIN_VALUE), BAD_ARG);
        Due.eq("simple wrong", x.simple(Integer.MAX_VALUE), BAD_ARG);
        Due.eq("simple again", x.simple(0), 5);
    }

    private static void thenAndOr() {
        WordSolver x = Make.placed("01.", "10.", "01|");
        Due.is("then keeps the order", x.same(0, 1), false);
        Due.eq("01. of two", x.words(0, 2), 1);
        Due.eq("01. of one", x.words(0, 1), 0);
        Due.eq("01| of one", x.words(2, 1), 2);
        Due.eq("01| of two", x.words(2, 2), 0);
        Make.push(x, "0e|1e|.");
        x.place(0);
        Make.push(x, "01.0|1|e|");
        x.place(1);
        Due.is("then of two with the empty word", x.same(0, 1), true);
        Make.push(x, "10|");
        x.place(0);
        Due.is("or has no order", x.same(0, 2), true);
        Due.is("then without an empty word in front", Make.placed("01e|.", "01.0|").same(0, 1), true);
        Due.is("then without an empty word behind", Make.placed("0e|1.", "01.1|").same(0, 1), true);
        Due.is("then with empty", Make.placed("0e.", "e0.", "0").same(0, 1), true);
        Due.is("then with empty", Make.placed("0e.", "e0.", "0").same(1, 2), true);
        refusedPairs(false);
        refusedPairs(true);
    }

    private static int pair(WordSolver x, boolean isOr) {
        return isOr ? x.or() : x.then();
    }

    private static void refusedPairs(boolean isOr) {
        WordSolver x = new WordSolver();
        Due.eq("pair of none", pair(x, isOr), TOO_FEW);
        x.simple(0);
        Due.eq("pair of one", pair(x, isOr), TOO_FEW);
        Due.eq("one is left", x.simple(1), 2);
        Due.eq("pair of two", pair(x, isOr), 1);
        Make.push(x, "0.0.");
        Make.push(x, "00.");
        Due.eq("pair of size 6", pair(x, isOr), 1);
        Due.eq("pair of size 6 with empty", x.simple(3), 2);
        Due.eq("pair of size 6 with empty", pair(x, isOr), 1);
        x.simple(1);
        Due.eq("pair of size 7", pair(x, isOr), FULL);
        Due.eq("pair of size 7 again", pair(x, isOr), FULL);
        Due.eq("a refused pair changes nothing", x.place(0), 1);
        Due.eq("the top was the letter", x.words(0, 1), 1);
        Due.eq("a refused pair changes nothing", x.place(1), 0);
        Due.eq("below was the pair", x.size(1), 6);
        Due.eq("below was the pair", x.words(1, 6), isOr ? 0 : 1);
        Due.eq("pair of none", pair(x, isOr), TOO_FEW);
        Make.push(x, "00.0.0.0.*?1*.");
        Due.eq("any counts for the size", pair(x, isOr), FULL);
    }

    private static void many() {
        WordSolver x = new WordSolver();
        Due.eq("many of none", x.many(), TOO_FEW);
        x.simple(0);
        Due.eq("many of one", x.many(), 1);
        x.simple(1);
        Due.eq("many of two", x.many(), 2);
        x.place(1);
        x.place(0);
        for (int n = 0; n <= 20; n++) {
            Due.eq("0* of " + n, x.words(0, n), 1);
        }
        Due.is("many takes the top", x.same(0, 1), false);
        Due.is("many of many", Make.placed("0*", "0**").same(0, 1), true);
        Due.is("many of empty", Make.placed("e*", "e").same(0, 1), true);
        Due.is("many of or", Make.placed("01|*", "0*1*.*", "?*").same(0, 1), true);
        Due.is("many of or", Make.placed("01|*", "0*1*.*", "?*").same(1, 2), true);
        Due.is("many of then", Make.placed("00.*", "0*").same(0, 1), false);
        Due.is("many with the empty word", Make.placed("00.e|*", "00.*").same(0, 1), true);
        WordSolver y = Make.placed("000..000..*.");
        Due.eq("many keeps the size", y.size(0), 6);
    }

    private static void place() {
        WordSolver x = new WordSolver();
        for (int k : OUTSIDE) {
            Due.eq("place outside of an empty stack", x.place(k), BAD_ARG);
        }
        for (int k = 0; k < 3; k++) {
            Due.eq("place of an empty stack", x.place(k), TOO_FEW);
        }
        Make.push(x, "01*?");
        for (int k : OUTSIDE) {
            Due.eq("place outside", x.place(k), BAD_ARG);
        }
        Due.eq("place(0)", x.place(0), 2);
        Due.eq("place(2)", x.place(2), 1);
        Due.eq("place(0) again", x.place(0), 0);
        Due.eq("place(0) of none", x.place(0), TOO_FEW);
        Due.eq("what was placed last", x.words(0, 1), 1);
        Due.eq("nothing is left of what was before", x.words(0, 2), 0);
        Due.eq("the other place", x.words(2, 20), 1);
        Due.eq("the place that was left out", x.words(1, 0), 1);
        Make.push(x, "000..");
        x.place(0);
        Make.push(x, "0");
        x.place(0);
        Due.is("nothing is left of a greater pattern", x.same(0, 2), false);
        Due.eq("nothing is left of a greater pattern", x.rests(0), 3);
    }

    private static void size() {
        WordSolver x = Make.placed("e", "0?.", "00.0.1.1.?.*");
        Due.eq("size(0)", x.size(0), 0);
        Due.eq("size(1)", x.size(1), 2);
        Due.eq("size(2)", x.size(2), 6);
        Make.push(x, "0e|");
        Due.eq("size in place only", x.size(0), 0);
        x.place(0);
        Due.eq("size of a letter or empty", x.size(0), 1);
        Make.push(x, "00|");
        x.place(0);
        Due.eq("size counts how often", x.size(0), 2);
        for (int k : OUTSIDE) {
            Due.eq("size outside", x.size(k), BAD_ARG);
        }
    }

    private static void words() {
        WordSolver x = Make.placed("?*", "?*1.?.?.?.?.", "00.*00.0.*|");
        int[] twosAndThrees = {1, 0, 1, 1, 1, 0, 1, 0, 1, 1, 1, 0, 1};
        for (int n = 0; n <= 20; n++) {
            Due.eq("all words of " + n, x.words(0, n), 1 << n);
            Due.eq("words with a 1 fifth from the end of " + n, x.words(1, n), n < 5 ? 0 : 1 << (n - 1));
        }
        for (int n = 0; n < twosAndThrees.length; n++) {
            boolean is = n % 2 == 0 || n % 3 == 0;
            Due.eq("words of twos or threes of " + n, x.words(2, n), is ? 1 : 0);
        }
        Due.eq("a word counts once", Make.placed("00|0|0.").words(0, 2), 1);
        Due.eq("words with n too great", x.words(0, 21), BAD_ARG);
        Due.eq("words with n too small", x.words(0, -1), BAD_ARG);
        Due.eq("words with n too great", x.words(2, Integer.MAX_VALUE), BAD_ARG);
        for (int k : OUTSIDE) {
            Due.eq("words outside", x.words(k, 0), BAD_ARG);
            Due.eq("words outside", x.words(k, 21), BAD_ARG);
        }
    }

    private static void same() {
        WordSolver x = Make.placed("01.*", "e01.01.*.|", "01.0*|");
        for (int k = 0; k < 3; k++) {
            Due.is("same as itself", x.same(k, k), true);
            for (int j : OUTSIDE) {
                Due.is("same with one outside", x.same(k, j), false);
                Due.is("same with one outside", x.same(j, k), false);
                Due.is("same with both outside", x.same(j, j), false);
            }
        }
        Due.is("same", x.same(0, 1), true);
        Due.is("same", x.same(1, 0), true);
        Due.is("not the same", x.same(0, 2), false);
        Due.is("not the same", x.same(2, 1), false);
        Due.is("differ in a long word alone", Make.placed("00.*00.0.*|", "0*").same(0, 1), false);
        Due.is("differ in the empty word alone", Make.placed("0*", "00*.").same(0, 1), false);
        Due.is("(0|1)* by stars", Make.placed("0*1.*0*.", "01|*").same(0, 1), true);
        Due.is("0(10)* is (01)*0", Make.placed("010.*.", "01.*0.").same(0, 1), true);
    }

    private static void endless() {
        WordSolver x = Make.placed("00.0.0.0.0.", "00.0.0.0.0.*", "e*");
        Due.is("not endless", x.endless(0), false);
        Due.is("not endless: many of empty", x.endless(2), false);
        Due.is("endless in sixes", x.endless(1), true);
        Make.push(x, "??.?.?.?.?.");
        x.place(0);
        Due.is("not endless: all words of 6", x.endless(0), false);
        Make.push(x, "00.0.0.0.1*.");
        x.place(0);
        Due.is("endless at the end", x.endless(0), true);
        Make.push(x, "1*0|");
        x.place(2);
        Due.is("endless or", x.endless(2), true);
        for (int k : OUTSIDE) {
            Due.is("endless outside", x.endless(k), false);
        }
    }

    private static void rests() {
        Due.eq("rests of all words", Make.placed("?*").rests(0), 1);
        Due.eq("rests of a letter", Make.placed("0").rests(0), 3);
        Due.eq("rests of any", Make.placed("?").rests(0), 3);
        Due.eq("rests of all words with a 1", Make.placed("0*1.?*.").rests(0), 2);
        Due.eq("rests of words with a 1 fifth from the end", Make.placed("?*1.?.?.?.?.").rests(0), 32);
        Due.eq("rests of six letters", Make.placed("01.0.1.0.1.").rests(0), 8);
        Due.eq("rests of twos or threes", Make.placed("00.*00.0.*|").rests(0), 7);
        Due.eq("rests of ?s in twos or threes", Make.placed("??.*??.?.*|").rests(0), 6);
        WordSolver x = Make.placed("0*", "e", "00.*");
        Due.eq("rests(0)", x.rests(0), 2);
        Due.eq("rests(1)", x.rests(1), 2);
        Due.eq("rests(2)", x.rests(2), 3);
        for (int k : OUTSIDE) {
            Due.eq("rests outside", x.rests(k), BAD_ARG);
        }
    }
}
