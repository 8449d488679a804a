/**
 * What an object has, told by its answers: all that can be asked without a change, and then what
 * comes to light when bounds, demands, stack and term are taken away; not a test itself. As long as
 * the object has what it is said to have no call is refused: so a refused call that changes
 * something is not hidden by another one here.
 */
final class Trace {
    private final WordSolver x;
    private final StringBuilder told = new StringBuilder();

    private Trace(WordSolver x) {
        this.x = x;
    }

    /** Uses the object up, with some 350 calls at most. */
    static String of(WordSolver x, int stacked, int demands, int bounds) {
        Trace trace = new Trace(x);
        trace.tellPlaces();
        trace.tellSolutions();
        trace.tellWithout(1, bounds);
        trace.tellWithout(0, demands);
        trace.tellStack(stacked);
        trace.tellTerm();
        trace.tellWhatIsLeft();
        return trace.told.toString();
    }

    private void tell(String what, Object answer) {
        told.append(what).append(' ').append(answer).append('\n');
    }

    private void tellPlaces() {
        for (int k = 0; k < 3; k++) {
            tellPlace(k);
            tell("same as the next", x.same(k, (k + 1) % 3));
        }
    }

    private void tellPlace(int k) {
        tell("size", x.size(k));
        for (int n = 0; n <= 20; n++) {
            tell("words", x.words(k, n));
        }
        tell("endless", x.endless(k));
        tell("rests", x.rests(k));
    }

    private void tellSolutions() {
        for (int n = 0; n <= 9; n++) {
            tell("ofLength", x.ofLength(n));
        }
        tellCounts();
        for (int i = 0; i < 3 && x.solutions() > 0; i++) {
            tell("lengths", x.lengths(i));
            tell("length", x.length(i));
            for (int n = 0; n < x.length(i); n++) {
                tell("letter", x.letter(i, n));
            }
        }
    }

    private void tellCounts() {
        tell("solutions", x.solutions());
        for (int i = 0; i < 3; i++) {
            tell("different", x.different(i));
        }
    }

    private void tellWithout(int what, int count) {
        for (int n = 0; n < count; n++) {
            tell("left", x.drop(what));
            tellCounts();
        }
    }

    private void tellStack(int stacked) {
        for (int n = 0; n < stacked; n++) {
            tell("left", x.place(0));
            tellPlace(0);
        }
    }

    private void tellTerm() {
        tell("demand", x.demand(0, 1));
        // Words that begin with 0, words that end with 0, words of 01 again and again.
        for (String pattern : new String[] {"0?*.", "?*0.", "01.*"}) {
            Make.push(x, pattern);
            x.place(0);
            tellCounts();
        }
    }

    private void tellWhatIsLeft() {
        tell("bound", x.bound(0, 0, 0, 0));
        tell("demand", x.demand(0, 0));
        tell("sign", x.sign(0));
        tell("simple", x.simple(0));
    }
}
