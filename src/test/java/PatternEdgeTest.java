/**
 * Each sentence on patterns that names a boundary case: the least and the greatest that is right,
 * nothing, all that there is room for. What is refused is in RefusalTest.
 */
public final class PatternEdgeTest {
    private static final String SIZE_6 = "01.1.0.0.1.";

    public static void main(String[] args) {
        lettersAnyAndEmpty();
        manyOfNone();
        newObject();
        simpleUpTo5();
        pairOfTheTopTwo();
        pairUpToSize6();
        manyAtTheLimits();
        placeDownToNone();
        placeAgain();
        sizeFrom0To6();
        wordsFrom0To20();
        sameAtTheEdges();
        endlessAtTheEdges();
        restsAtTheEdges();
        Due.end();
    }

    private static void wordsAre(String what, WordSolver x, int k, int... counts) {
        for (int n = 0; n <= 20; n++) {
            Due.eq(what + ": words of " + n, x.words(k, n), n < counts.length ? counts[n] : 0);
        }
    }

    /** "a letter (the word of it), any (both words of one letter), empty (the word without letters)" */
    private static void lettersAnyAndEmpty() {
        WordSolver x = Make.placed("0", "1", "?");
        wordsAre("letter 0", x, 0, 0, 1);
        wordsAre("letter 1", x, 1, 0, 1);
        wordsAre("any", x, 2, 0, 2);
        Due.is("letter 0 is not letter 1", x.same(0, 1), false);
        Make.push(x, "01|");
        x.place(0);
        Due.is("any is both letters", x.same(0, 2), true);
        Make.push(x, "e");
        x.place(1);
        wordsAre("empty", x, 1, 1);
    }

    /** "many p (any number of words of p one behind the other, none too)" */
    private static void manyOfNone() {
        Due.eq("many has the word without letters", Make.placed("0*").words(0, 0), 1);
        Due.eq("many has one of p", Make.placed("01.*").words(0, 2), 1);
        Due.eq("many has ten of p", Make.placed("01.*").words(0, 20), 1);
        wordsAre("many of empty", Make.placed("e*"), 0, 1);
        Due.is("many of many", Make.placed("01.*", "01.**").same(0, 1), true);
    }

    /** Promise 1: "The stack of patterns is empty; no sign, demand or bound", patterns 0 to 2 empty. */
    private static void newObject() {
        Due.eq("new: the stack is empty", new WordSolver().simple(0), 1);
        Due.eq("new: no sign", new WordSolver().sign(0), 1);
        Due.eq("new: no demand", new WordSolver().demand(0, 1), 1);
        Due.eq("new: no bound", new WordSolver().bound(0, 0, 0, 0), 1);
        WordSolver x = new WordSolver();
        for (int k = 0; k <= 2; k++) {
            Due.eq("new: size(" + k + ")", x.size(k), 0);
            wordsAre("new: pattern " + k, x, k, 1);
            Due.is("new: endless(" + k + ")", x.endless(k), false);
            Due.eq("new: rests(" + k + ")", x.rests(k), 2);
            for (int j = 0; j <= 2; j++) {
                Due.is("new: same(" + k + ", " + j + ")", x.same(k, j), true);
            }
        }
        Due.eq("new: solutions()", x.solutions(), 15 * 15 * 15);
    }

    /** Promise 2: "Otherwise the number on it", up to the 5 that it holds. */
    private static void simpleUpTo5() {
        for (int what = 0; what <= 3; what++) {
            WordSolver x = new WordSolver();
            for (int n = 1; n <= 5; n++) {
                Due.eq("simple(" + what + ") for the time " + n, x.simple(what), n);
            }
            x.place(0);
            Due.eq("simple(" + what + ") where one was taken off", x.simple(what), 5);
        }
    }

    /** Promises 3 and 4: "Takes p and q off (q the top)": these, and none below. */
    private static void pairOfTheTopTwo() {
        for (boolean isOr : new boolean[] {false, true}) {
            WordSolver x = new WordSolver();
            Make.push(x, "?*" + "1" + "e" + "0" + "1");
            Due.eq("pair of the top of 5", isOr ? x.or() : x.then(), 4);
            Due.eq("pair: number left", x.place(0), 3);
            wordsAre("pair of 0 and 1", x, 0, 0, isOr ? 2 : 0, isOr ? 0 : 1);
            Make.push(x, "01" + (isOr ? "|" : "."));
            Due.eq("pair: number left", x.place(1), 3);
            Due.is("pair of 0 and 1, q behind p", x.same(0, 1), true);
            Due.eq("pair of 1 and empty", isOr ? x.or() : x.then(), 2);
            x.place(0);
            wordsAre("pair of 1 and empty", x, 0, isOr ? 1 : 0, 1);
            x.place(0);
            Due.eq("the one below is as it was", x.words(0, 20), 1 << 20);
        }
    }

    /** Promises 3 and 4: a size of 6 is not "more than 6", however it is made up. */
    private static void pairUpToSize6() {
        String[] pairs = {"ee", "0e", "e0", SIZE_6 + "e", "e" + SIZE_6, "00.0.0.0." + "1",
            "1" + "00.0.0.0.", "0?.1|" + "0?.1|*", "0*" + "??.?|?|?|"};
        int[] sizes = {0, 1, 1, 6, 6, 6, 6, 6, 6};
        for (int n = 0; n < pairs.length; n++) {
            WordSolver x = new WordSolver();
            Make.push(x, pairs[n]);
            Due.eq("then() on " + pairs[n], x.then(), 1);
            x.place(0);
            Due.eq("then() on " + pairs[n] + ": size", x.size(0), sizes[n]);
            Make.push(x, pairs[n]);
            Due.eq("or() on " + pairs[n], x.or(), 1);
            x.place(1);
            Due.eq("or() on " + pairs[n] + ": size", x.size(1), sizes[n]);
        }
    }

    /** Promise 5: "the number on the stack", of one and of 5; there is no limit to be reached. */
    private static void manyAtTheLimits() {
        WordSolver x = new WordSolver();
        Make.push(x, "0");
        Due.eq("many() of one", x.many(), 1);
        Make.push(x, "e" + "1" + SIZE_6);
        Due.eq("many() of size 6", x.many(), 4);
        Make.push(x, "0");
        Due.eq("many() of 5", x.many(), 5);
        Due.eq("many() again", x.many(), 5);
        x.place(0);
        Due.eq("many() of the top", x.words(0, 20), 1);
        x.place(0);
        Due.eq("many() keeps the size", x.size(0), 6);
        Due.eq("many() of size 6", x.words(0, 18), 1);
        x.place(0);
        wordsAre("not many of one below", x, 0, 0, 1);
    }

    /** Promise 6: "Otherwise the number left", down to none. */
    private static void placeDownToNone() {
        WordSolver x = new WordSolver();
        Make.push(x, "0" + "1" + "?" + "00." + "e");
        for (int left = 4; left >= 0; left--) {
            Due.eq("place(" + left % 3 + ")", x.place(left % 3), left);
        }
        wordsAre("placed last in 0", x, 0, 0, 1);
        wordsAre("placed last in 1", x, 1, 0, 1);
        wordsAre("placed last in 2", x, 2, 0, 2);
        Due.is("the bottom is 0, the one above 1", x.same(0, 1), false);
    }

    /** Promise 6: "put in place k", where nothing stays of what was there, and nowhere else. */
    private static void placeAgain() {
        for (int k = 0; k <= 2; k++) {
            WordSolver x = Make.placed(SIZE_6 + "*", SIZE_6 + "*", SIZE_6 + "*");
            Due.eq("rests before", x.rests(k), 7);
            Make.push(x, "e");
            x.place(k);
            for (int j = 0; j <= 2; j++) {
                Due.eq("size of " + j + " after place " + k, x.size(j), j == k ? 0 : 6);
                Due.eq("words of " + j + " after place " + k, x.words(j, 6), j == k ? 0 : 1);
                Due.eq("rests of " + j + " after place " + k, x.rests(j), j == k ? 2 : 7);
            }
        }
    }

    /** Promise 7: "how often letters and any stand in it", from none of them to 6. */
    private static void sizeFrom0To6() {
        String[] patterns = {"e", "0e|", "00|", "?e.1.1*.", "0*0*.0*.0*.", "??.*?.?.?.", "00|0|0|0|0|*"};
        for (int size = 0; size <= 6; size++) {
            WordSolver x = Make.placed("1", "1", "1");
            Make.push(x, patterns[size]);
            Due.eq("size before place", x.size(size % 3), 1);
            x.place(size % 3);
            Due.eq("size of " + patterns[size], x.size(size % 3), size);
        }
    }

    /** Promise 8: "The number of words of length n", n from 0 to 20. */
    private static void wordsFrom0To20() {
        WordSolver x = Make.placed("?*", "?*0.", "0?.*1.");
        for (int n = 0; n <= 20; n++) {
            Due.eq("all words of " + n, x.words(0, n), 1 << n);
            Due.eq("words of " + n + " with 0 at the end", x.words(1, n), n == 0 ? 0 : 1 << (n - 1));
            Due.eq("words of " + n + ", each second free", x.words(2, n), n % 2 == 0 ? 0 : 1 << n / 2);
        }
        Due.eq("a word in more than one way is one", Make.placed("0*0*.0*.0*.0*.0*.").words(0, 20), 1);
    }

    /** Promise 9: a pattern and itself; sets that differ in the shortest, or first in a long word. */
    private static void sameAtTheEdges() {
        WordSolver x = Make.placed("00.0.0.0.0.*", "00.0.0.0.0.e|", "e");
        for (int k = 0; k <= 2; k++) {
            for (int j = 0; j <= 2; j++) {
                Due.is("same(" + k + ", " + j + ")", x.same(k, j), k == j);
            }
        }
        Due.is("all but the word without letters", Make.placed("0*", "00*.").same(0, 1), false);
        Due.is("letters against empty", Make.placed("0", "e").same(0, 1), false);
        Due.is("another pattern for the same set", Make.placed("0*1.*0*.", "?*").same(0, 1), true);
        Due.is("another size for the same set", Make.placed("0*0*.", "0*").same(0, 1), true);
    }

    /** Promise 10: finitely many up to size 6; many of empty; and the longest way round. */
    private static void endlessAtTheEdges() {
        Due.is("empty", Make.placed("e").endless(0), false);
        Due.is("many of empty", Make.placed("e*").endless(0), false);
        Due.is("many of many of empty", Make.placed("ee|**").endless(0), false);
        Due.is("many of empty beside letters", Make.placed("0e*.1.").endless(0), false);
        Due.is("all words of up to 6", Make.placed("?e|?e|.?e|.?e|.?e|.?e|.").endless(0), false);
        Due.is("many of a letter", Make.placed("0*").endless(0), true);
        Due.is("many of 6 letters", Make.placed(SIZE_6 + "*").endless(0), true);
        Due.is("many of any behind 5 letters", Make.placed("00.0.0.0.?*.").endless(0), true);
        Due.is("many of a letter before 5", Make.placed("0*11.1.1.1..").endless(0), true);
        Due.is("many in one of two", Make.placed("e0*|").endless(0), true);
        WordSolver x = Make.placed("e", "0*", "e");
        Due.is("endless(0) beside an endless one", x.endless(0), false);
        Due.is("endless(1) between others", x.endless(1), true);
        Due.is("endless(2) beside an endless one", x.endless(2), false);
    }

    /** Promise 11: "for all words w; the empty set counts, too, if it comes up" */
    private static void restsAtTheEdges() {
        Due.eq("the empty set does not come up", Make.placed("?*").rests(0), 1);
        Due.eq("the empty set comes up after a letter", Make.placed("e").rests(0), 2);
        Due.eq("the empty set comes up after 1", Make.placed("0*").rests(0), 2);
        Due.eq("w without letters leaves the set itself", Make.placed("00*.").rests(0), 3);
        Due.eq("the empty set comes up after 7 letters", Make.placed("??.?.?.?.?.").rests(0), 8);
        Due.eq("the same set twice", Make.placed("01.10.|").rests(0), 5);
        Due.eq("the same set after two words", Make.placed("01.11.|").rests(0), 4);
        Due.eq("sets that only long words lead to", Make.placed("e?|?.0.0.0.*").rests(0), 17);
        Due.eq("sets that only long words lead to", Make.placed("e?|?.1.1.1.*").rests(0), 17);
        Due.eq("a letter that is far from the end", Make.placed("?*1.?.?.?.?.").rests(0), 32);
        WordSolver x = Make.placed("0*", "?*", "?*");
        for (int k = 0; k <= 2; k++) {
            Due.eq("rests(" + k + ") beside the others", x.rests(k), k == 0 ? 2 : 1);
        }
        Make.push(x, "?*");
        x.place(0);
        Due.eq("the empty set does not come up any more", x.rests(0), 1);
    }
}
