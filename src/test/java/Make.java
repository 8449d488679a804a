/** Makes patterns and terms out of text; not a test itself. */
final class Make {
    private Make() {
    }

    /**
     * Does the calls that the marks of a text name, as on a stack: 0 and 1 the letters, '?' any,
     * 'e' empty, '.' then, '|' or, '*' many. None of them may be refused.
     */
    static void push(WordSolver x, String marks) {
        for (char mark : marks.toCharArray()) {
            int answer;
            switch (mark) {
                case '0': answer = x.simple(0); break;
                case '1': answer = x.simple(1); break;
                case '?': answer = x.simple(2); break;
                case 'e': answer = x.simple(3); break;
                case '.': answer = x.then(); break;
                case '|': answer = x.or(); break;
                case '*': answer = x.many(); break;
                default: throw new IllegalArgumentException(marks);
            }
            if (answer < 0) {
                throw new IllegalStateException(marks + " is refused with " + answer);
            }
        }
    }

    static WordSolver placed(String... patterns) {
        WordSolver x = new WordSolver();
        for (int k = 0; k < patterns.length; k++) {
            push(x, patterns[k]);
            x.place(k);
        }
        return x;
    }

    /** Adds a demand whose term has the signs that the digits of a text name. */
    static int demand(WordSolver x, String signs, int k, int kept) {
        for (char s : signs.toCharArray()) {
            x.sign(s - '0');
        }
        return x.demand(k, kept);
    }
}
