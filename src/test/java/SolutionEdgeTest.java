/**
 * Each sentence on unknowns, demands, bounds and solutions that names a boundary case: the least and
 * the greatest that is right, nothing, all that there is. What is refused is in RefusalTest.
 */
public final class SolutionEdgeTest {
    private static final int NONE = -4;
    private static final int ALL = 15 * 15 * 15;

    public static void main(String[] args) {
        unknownsOfAtMost3();
        termOf4Signs();
        termOfNoSign();
        termsOfUpTo12Letters();
        signsFrom0To4();
        demandTakesTheTerm();
        demandsUpTo6();
        demandOnWhatIsInPlace();
        boundsUpTo3();
        boundFactorsAndSums();
        boundIsAtMost();
        dropTheLast();
        demandInTheRoomOfALongerOne();
        leastSumGoesFirst();
        shorterWordGoesFirst();
        dictionaryGoesNext();
        unknown0GoesBefore1And1Before2();
        lengthAndLettersOfTheFirst();
        lettersBeyondTheWord();
        solutionsFromNoneToAll();
        lengthsAndDifferentFromNoneToAll();
        ofLengthFrom0To9();
        lastCall();
        Due.end();
    }

    /** "UNKNOWNS, 0 to 2, which stand for words of at most 3 letters" */
    private static void unknownsOfAtMost3() {
        WordSolver x = Make.placed("?*", "??.?.", "??.?.?.");
        for (int i = 0; i <= 2; i++) {
            Make.demand(x, "" + i, 0, 1);
            Due.eq("any word for " + i, x.solutions(), ALL);
            Make.demand(x, "" + i, 1, 1);
            Due.eq("3 letters for " + i, x.solutions(), 8 * 15 * 15);
            x.drop(0);
            Make.demand(x, "" + i, 2, 1);
            Due.eq("4 letters for " + i, x.solutions(), 0);
            x.drop(0);
        }
    }

    /** "A TERM is a list of at most 4 SIGNS": the fourth counts as the others do. */
    private static void termOf4Signs() {
        WordSolver x = Make.placed("01.0.1.", "01.0.0.");
        Make.demand(x, "3434", 0, 1);
        Due.eq("0 1 0 1 is 0101", x.solutions(), ALL);
        Make.demand(x, "3434", 1, 0);
        Due.eq("0 1 0 1 is not 0100", x.solutions(), ALL);
        Make.demand(x, "3431", 0, 1);
        Due.eq("0 1 0 x1 is 0101", x.different(1), 1);
        Due.eq("x1 is 1", x.letter(1, 0), 1);
    }

    /** A term without signs, "all its signs one behind the other", is the word without letters. */
    private static void termOfNoSign() {
        WordSolver x = Make.placed("0*", "?");
        x.demand(0, 1);
        Due.eq("no letters are of 0*", x.solutions(), ALL);
        x.demand(1, 0);
        Due.eq("no letters are not of any", x.solutions(), ALL);
        x.demand(0, 0);
        Due.eq("no letters are of 0*, against the demand", x.solutions(), 0);
        x.drop(0);
        x.demand(1, 1);
        Due.eq("no letters are not of any, against the demand", x.solutions(), 0);
    }

    /** A term of 4 unknowns of 3 letters each has 12, and all of them count. */
    private static void termsOfUpTo12Letters() {
        WordSolver x = Make.placed("??.?.?.?.?.*", "1?*.", "?*1.");
        x.bound(-1, -1, -1, -9);
        Make.demand(x, "0120", 0, 1);
        Due.eq("12 letters are in sixes", x.solutions(), 512);
        Make.demand(x, "0122", 1, 1);
        Due.eq("the first of 12 letters is 1", x.different(0), 4);
        Due.eq("the first of 12 letters is 1", x.solutions(), 256);
        Make.demand(x, "2201", 2, 1);
        Due.eq("the last of 12 letters is 1", x.different(1), 4);
        Due.eq("the last of 12 letters is 1", x.solutions(), 128);
    }

    /** Promise 12: "0 to 2 an unknown, 3 the letter 0, 4 the letter 1"; "Otherwise how many it has." */
    private static void signsFrom0To4() {
        for (int s = 0; s <= 4; s++) {
            WordSolver x = Make.placed("0", "1");
            Due.eq("sign(" + s + ")", x.sign(s), 1);
            x.demand(0, 1);
            Due.eq("sign " + s + " is 0", x.solutions(), s <= 2 ? 15 * 15 : s == 3 ? ALL : 0);
            Due.eq("sign again", x.sign(s), 1);
            x.demand(1, 0);
            for (int i = 0; i <= 2; i++) {
                int due = s == 4 ? 0 : s == i ? 1 : 15;
                Due.eq("sign " + s + " is 0 and not 1: different(" + i + ")", x.different(i), due);
            }
            for (int n = 1; n <= 4; n++) {
                Due.eq("sign(" + s + ") for the time " + n, x.sign(s), n);
            }
        }
    }

    /** Promise 13: "with the term in the making (which has no sign then)" */
    private static void demandTakesTheTerm() {
        WordSolver x = Make.placed("0", "e");
        for (int s = 0; s <= 3; s++) {
            x.sign(s);
        }
        Due.eq("signs alone are no demand", x.solutions(), ALL);
        Due.eq("demand of 4 signs", x.demand(0, 1), 1);
        Due.eq("x0 x1 x2 0 is 0", x.solutions(), 1);
        Due.eq("demand of the term that has no sign", x.demand(1, 1), 2);
        Due.eq("no letters are of empty", x.solutions(), 1);
        for (int n = 1; n <= 4; n++) {
            Due.eq("sign after the demand", x.sign(0), n);
        }
    }

    /** "At most 6 DEMANDS", and each of the 6 counts. */
    private static void demandsUpTo6() {
        for (int broken = 1; broken <= 6; broken++) {
            WordSolver x = Make.placed("0*");
            for (int n = 1; n <= 6; n++) {
                Due.eq("demand " + n, Make.demand(x, n == broken ? "4" : "3", 0, 1), n);
                Due.eq("demand " + n + " counts", x.solutions(), n < broken ? ALL : 0);
            }
            for (int n = 5; n >= 0; n--) {
                Due.eq("a demand less", x.drop(0), n);
                Due.eq("demands that are left count", x.solutions(), n < broken ? ALL : 0);
            }
        }
    }

    /** "a word of pattern k (as it is in place when that is asked)", for k 0 to 2. */
    private static void demandOnWhatIsInPlace() {
        for (int k = 0; k <= 2; k++) {
            WordSolver x = new WordSolver();
            Make.demand(x, "1", k, 1);
            Due.eq("x1 is of the empty pattern " + k, x.different(1), 1);
            Make.push(x, "?*");
            Due.eq("not in place yet", x.different(1), 1);
            x.place(k);
            Due.eq("x1 is any word", x.different(1), 15);
            Make.push(x, "??.");
            x.place((k + 1) % 3);
            Due.eq("another place", x.different(1), 15);
        }
    }

    /** "at most 3 BOUNDS", and each of the 3 counts. */
    private static void boundsUpTo3() {
        for (int broken = 1; broken <= 3; broken++) {
            WordSolver x = new WordSolver();
            for (int n = 1; n <= 3; n++) {
                Due.eq("bound " + n, x.bound(0, 0, 0, n == broken ? -1 : 0), n);
                Due.eq("bound " + n + " counts", x.solutions(), n < broken ? ALL : 0);
            }
            for (int n = 2; n >= 0; n--) {
                Due.eq("a bound less", x.drop(1), n);
                Due.eq("bounds that are left count", x.solutions(), n < broken ? ALL : 0);
            }
        }
    }

    /** Promise 14: a, b and c of -3 and 3 are right, and so are d of -20 and 20. */
    private static void boundFactorsAndSums() {
        for (int i = 0; i <= 2; i++) {
            WordSolver x = new WordSolver();
            Due.eq("factor 3", boundOn(x, i, 3, 6), 1);
            Due.eq("3 times a length is at most 6", x.lengths(i), 7);
            Due.eq("of the others nothing is said", x.lengths((i + 1) % 3), 15);
            Due.eq("of the others nothing is said", x.lengths((i + 2) % 3), 15);
            Due.eq("factor -3", boundOn(x, i, -3, -6), 2);
            Due.eq("-3 times a length is at most -6", x.lengths(i), 4);
        }
        WordSolver y = new WordSolver();
        Due.eq("d 20", y.bound(3, 3, 3, 20), 1);
        Due.eq("3 times the sum is at most 20", y.ofLength(6), 10 * 64);
        Due.eq("3 times the sum is at most 20", y.ofLength(7), 0);
        Due.eq("d -20", y.bound(-3, -3, -3, -20), 2);
        Due.eq("3 times the sum is at least 20, too", y.solutions(), 0);
        WordSolver z = new WordSolver();
        z.bound(-3, -3, -3, -20);
        Due.eq("3 times the sum is at least 20", z.ofLength(6), 0);
        Due.eq("3 times the sum is at least 20", z.ofLength(7), 6 * 128);
    }

    private static int boundOn(WordSolver x, int i, int factor, int d) {
        return x.bound(i == 0 ? factor : 0, i == 1 ? factor : 0, i == 2 ? factor : 0, d);
    }

    /** "is at most d": what is equal keeps the bound, and what is one more does not. */
    private static void boundIsAtMost() {
        for (int d = -1; d <= 4; d++) {
            WordSolver x = new WordSolver();
            x.bound(1, 0, 0, d);
            Due.eq("length at most " + d, x.lengths(0), d < 0 ? 0 : Math.min(15, (2 << d) - 1));
        }
        int[] solutions = {0, 64, 64 + 2 * 32};
        for (int d = -7; d <= -5; d++) {
            WordSolver y = new WordSolver();
            y.bound(2, -1, -1, d);
            Due.eq("2 times length 0 less lengths 1 and 2 at most " + d, y.solutions(), solutions[d + 7]);
        }
    }

    /** Promise 15: "Takes the last demand (what 0) or bound (what 1) away", not the first. */
    private static void dropTheLast() {
        WordSolver x = Make.placed("0", "1");
        Make.demand(x, "0", 0, 1);
        Make.demand(x, "0", 1, 1);
        x.bound(0, 1, 0, 1);
        x.bound(0, 1, 0, 0);
        Due.eq("x0 is 0 and 1", x.solutions(), 0);
        Due.eq("drop(0) of 2", x.drop(0), 1);
        Due.eq("x0 is 0", x.letter(0, 0), 0);
        Due.eq("bounds are left", x.lengths(1), 1);
        Due.eq("drop(1) of 2", x.drop(1), 1);
        Due.eq("the first bound is left", x.lengths(1), 3);
        Due.eq("drop(1) of 1", x.drop(1), 0);
        Due.eq("no bound is left", x.lengths(1), 15);
        Due.eq("drop(0) of 1", x.drop(0), 0);
        Due.eq("nothing is left", x.solutions(), ALL);
    }

    /** Nothing stays of a demand or bound that was dropped when there comes another. */
    private static void demandInTheRoomOfALongerOne() {
        WordSolver x = Make.placed("0", "1");
        Make.demand(x, "4444", 1, 0);
        x.drop(0);
        Make.demand(x, "2", 0, 1);
        Due.eq("x2 is 0", x.different(2), 1);
        x.bound(3, 3, 3, -20);
        x.drop(1);
        x.bound(1, 0, 0, 0);
        Due.eq("x0 has no letters, x2 is 0", x.solutions(), 15);
    }

    private static void firstIs(String what, WordSolver x, String... words) {
        for (int i = 0; i <= 2; i++) {
            StringBuilder found = new StringBuilder();
            for (int n = 0; n < x.length(i); n++) {
                found.append(x.letter(i, n));
            }
            Due.alike(what + ": unknown " + i, found.toString(), words[i]);
        }
    }

    /** "of those with the least sum of lengths", even if the word for 0 is not the first then. */
    private static void leastSumGoesFirst() {
        String[] terms = {"01", "02", "12"};
        String[][] due = {{"1", "", ""}, {"1", "", ""}, {"", "1", ""}};
        for (int n = 0; n < terms.length; n++) {
            WordSolver x = Make.placed("1", "1000..|");
            Make.demand(x, terms[n], 1, 1);
            Make.demand(x, terms[n].substring(1), 0, 0);
            firstIs("1 or 000 in " + terms[n] + ", the second not 1", x, due[n]);
        }
    }

    /** "Words are ordered by length", before the dictionary is asked. */
    private static void shorterWordGoesFirst() {
        WordSolver x = Make.placed("100.|");
        Make.demand(x, "0", 0, 1);
        Make.demand(x, "1", 0, 1);
        x.bound(-1, -1, 0, -3);
        firstIs("1 before 00 for 0", x, "1", "00", "");
        WordSolver y = Make.placed("100.|");
        Make.demand(y, "1", 0, 1);
        Make.demand(y, "2", 0, 1);
        y.bound(0, -1, -1, -3);
        firstIs("1 before 00 for 1", y, "", "1", "00");
    }

    /** "those of the same length as in a dictionary", in each letter, for each unknown. */
    private static void dictionaryGoesNext() {
        String[] sets = {"10|", "10.01.|", "11.00.|", "10.0.01.1.|", "01.1.01.0.|", "01.0.00.1.|"};
        String[] firsts = {"0", "01", "00", "011", "010", "001"};
        for (int n = 0; n < sets.length; n++) {
            for (int i = 0; i <= 2; i++) {
                WordSolver x = Make.placed(sets[n]);
                Make.demand(x, "" + i, 0, 1);
                String[] due = {"", "", ""};
                due[i] = firsts[n];
                firstIs(sets[n] + " for " + i, x, due);
            }
        }
    }

    /** "the one with the first word for unknown 0, of these for 1, of these for 2" */
    private static void unknown0GoesBefore1And1Before2() {
        String[] terms = {"01", "02", "12"};
        String[][] due = {{"0", "1", ""}, {"0", "", "1"}, {"", "0", "1"}};
        String[][] dueInOne = {{"", "00", ""}, {"", "", "00"}, {"", "", "00"}};
        for (int n = 0; n < 3; n++) {
            for (boolean turned : new boolean[] {false, true}) {
                String term = turned ? new StringBuilder(terms[n]).reverse().toString() : terms[n];
                WordSolver x = Make.placed("01.10.|");
                Make.demand(x, term, 0, 1);
                Make.demand(x, terms[n].substring(0, 1), 1, 0);
                Make.demand(x, terms[n].substring(1), 1, 0);
                firstIs("01 or 10 in " + term, x, due[n]);
            }
            WordSolver y = Make.placed("00.");
            Make.demand(y, terms[n], 0, 1);
            firstIs("00 in " + terms[n], y, dueInOne[n]);
        }
    }

    /** Promises 17 and 18: of no letters up to 3; "0 is the first". */
    private static void lengthAndLettersOfTheFirst() {
        WordSolver x = Make.placed("10.0.", "11.0.", "e");
        Make.demand(x, "0", 0, 1);
        Make.demand(x, "1", 1, 1);
        Make.demand(x, "2", 2, 1);
        Due.eq("length of 3 letters", x.length(0), 3);
        Due.eq("length of no letters", x.length(2), 0);
        int[][] due = {{1, 0, 0, NONE}, {1, 1, 0, NONE}, {NONE, NONE, NONE, NONE}};
        for (int i = 0; i <= 2; i++) {
            for (int n = 0; n <= 3; n++) {
                Due.eq("letter(" + i + ", " + n + ")", x.letter(i, n), due[i][n]);
            }
        }
    }

    /** Promise 18: "NONE if there is none": behind the last letter, and before the first. */
    private static void lettersBeyondTheWord() {
        String[] words = {"e", "1", "11.", "11.1."};
        for (int length = 0; length <= 3; length++) {
            WordSolver x = Make.placed(words[length]);
            for (int i = 0; i <= 2; i++) {
                Make.demand(x, "" + i, 0, 1);
                Due.eq("length", x.length(i), length);
                for (int n = 0; n < length; n++) {
                    Due.eq("letter " + n + " of " + length, x.letter(i, n), 1);
                }
                for (int n : new int[] {-1, -2, length, 4, 29, 30, 31, 32, 33, -31, -32,
                        Integer.MIN_VALUE, Integer.MIN_VALUE + 1, Integer.MAX_VALUE}) {
                    Due.eq("letter " + n + " of " + length, x.letter(i, n), NONE);
                }
            }
        }
    }

    /** Promise 16: none, one, and all that there are. */
    private static void solutionsFromNoneToAll() {
        WordSolver x = new WordSolver();
        Due.eq("all", x.solutions(), ALL);
        x.bound(1, 1, 1, 0);
        Due.eq("the first alone", x.solutions(), 1);
        firstIs("the first alone", x, "", "", "");
        Due.eq("the first alone: lengths", x.lengths(2), 1);
        Due.eq("the first alone: different", x.different(2), 1);
        x.bound(0, 0, 0, -1);
        Due.eq("none", x.solutions(), 0);
        WordSolver y = Make.placed("11.1.");
        for (int i = 0; i <= 2; i++) {
            Make.demand(y, "" + i, 0, 1);
        }
        Due.eq("the last alone", y.solutions(), 1);
        firstIs("the last alone", y, "111", "111", "111");
        Due.eq("the last alone: lengths", y.lengths(2), 8);
        Due.eq("the last alone: different", y.different(2), 1);
    }

    /** Promises 19 and 20: lengths 0 to 3, words from the first to the last; no solution, none. */
    private static void lengthsAndDifferentFromNoneToAll() {
        String[] patterns = {"e", "?", "??.", "??.?.", "?*", "00.0.1|", "11.1.", "??.?.?."};
        int[] lengths = {1, 2, 4, 8, 15, 10, 8, 0};
        int[] different = {1, 2, 4, 8, 15, 2, 1, 0};
        for (int n = 0; n < patterns.length; n++) {
            for (int i = 0; i <= 2; i++) {
                WordSolver x = Make.placed(patterns[n]);
                Make.demand(x, "" + i, 0, 1);
                for (int j = 0; j <= 2; j++) {
                    int others = lengths[n] == 0 ? 0 : 15;
                    String what = "unknown " + j + " with " + patterns[n] + " for " + i;
                    Due.eq(what + ": lengths", x.lengths(j), j == i ? lengths[n] : others);
                    Due.eq(what + ": different", x.different(j), j == i ? different[n] : others);
                }
            }
        }
    }

    /** Promise 21: sums from 0 to 9; beyond them there is no solution to count. */
    private static void ofLengthFrom0To9() {
        WordSolver x = new WordSolver();
        Due.eq("ofLength(0)", x.ofLength(0), 1);
        Due.eq("ofLength(1)", x.ofLength(1), 3 * 2);
        Due.eq("ofLength(8)", x.ofLength(8), 3 * 256);
        Due.eq("ofLength(9)", x.ofLength(9), 512);
        int sum = 0;
        for (int n = 0; n <= 9; n++) {
            sum += x.ofLength(n);
        }
        Due.eq("all of them", sum, ALL);
        for (int n : new int[] {-1, 10, 32, Integer.MIN_VALUE, Integer.MAX_VALUE}) {
            Due.eq("ofLength(" + n + ")", x.ofLength(n), 0);
        }
        x.bound(0, 0, 0, -1);
        for (int n = -1; n <= 10; n++) {
            Due.eq("ofLength(" + n + ") without a solution", x.ofLength(n), 0);
        }
    }

    /** "An object is used for at most 512 calls": with the last of them, too, all is as due. */
    private static void lastCall() {
        WordSolver x = new WordSolver();
        for (int round = 0; round < 63; round++) {
            Make.push(x, "?*");
            x.place(round % 3);
            x.sign(4);
            Due.eq("demand of round " + round, x.demand(round % 3, 1), 1);
            Due.eq("solutions of round " + round, x.solutions(), ALL);
            Due.eq("drop of round " + round, x.drop(0), 0);
            Due.eq("words of round " + round, x.words(round % 3, 20), 1 << 20);
        }
        for (int call = 505; call <= 508; call++) {
            Due.eq("call " + call, x.sign(2), call - 504);
        }
        Due.eq("call 509", x.demand(0, 1), 1);
        Due.eq("call 510", x.rests(2), 1);
        Due.eq("call 511", x.different(2), 15);
        Due.eq("call 512", x.solutions(), ALL);
    }
}
