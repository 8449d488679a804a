/**
 * Seeks three unknown words whose concatenations are, or are not, in sets of words that patterns
 * describe, and whose lengths keep bounds; and tells of the sets of words themselves.
 */
public final class WordSolver {
    public static final int BAD_ARG = -1;
    public static final int FULL = -2;
    public static final int TOO_FEW = -3;
    public static final int NONE = -4;

    private static final int ACCEPTED = 0;

    private static final int STACK_LIMIT = 5;
    private static final int SIZE_LIMIT = 6;
    private static final int ALL_FOLLOWERS = STACK_LIMIT * SIZE_LIMIT;

    private static final int ANY = 2;
    private static final int EMPTY = 3;

    // A state is the set of positions of a pattern, as bits, at which a word that has been read
    // may end. Before any letter there is no such position, so that state has a number of its own.
    private static final int START = 1 << SIZE_LIMIT;
    private static final int STATES = START + 1;

    private static final int PLACES = 3;
    private static final int ALL_STATES = PLACES * STATES;
    private static final int ALL_STEPS = ALL_STATES * 2;

    // A word longer than the greatest size comes to a position twice, and what lies between can be
    // repeated, so the pattern is endless; and the shortest such word of an endless pattern is
    // longer than that size by no more than what can be left out of it, at most as many letters.
    private static final int SHORTEST_ENDLESS = SIZE_LIMIT + 1;
    private static final int LONGEST_ENDLESS = SIZE_LIMIT + SIZE_LIMIT;
    private static final int LONGEST_COUNTED = 20;

    private static final int UNKNOWNS = 3;
    private static final int TERM_LIMIT = 4;
    private static final int SIGN_ZERO = 3;
    private static final int SIGN_ONE = 4;
    private static final int LONGEST_TERM = 12;

    private static final int DEMAND_LIMIT = 6;
    private static final int ALL_DEMAND_SIGNS = DEMAND_LIMIT * TERM_LIMIT;
    private static final int BOUND_LIMIT = 3;
    private static final int FACTOR_LIMIT = 3;
    private static final int SUM_LIMIT = 20;

    // A word is held as the number whose binary digits are a 1 and, behind it, its letters: so the
    // order of the numbers is the order of the words, and 1 is the word without letters.
    private static final int NO_LETTERS = 1;
    private static final int WORD_ZERO = 2;
    private static final int WORD_ONE = 3;
    private static final int WORDS = 15;
    private static final int TRIALS = WORDS * WORDS * WORDS;
    private static final int NO_TRIAL = -1;
    private static final int ABOVE_ALL_SUMS = 10;

    // A pattern on the stack is held by its positions, the letters and anys in it, from the left:
    // which can come first and last in a word, which read a letter, which can follow a position.
    private int stacked = 0;
    private final int[] sizes = new int[STACK_LIMIT];
    private final boolean[] withEmpty = new boolean[STACK_LIMIT];
    private final int[] firsts = new int[STACK_LIMIT];
    private final int[] lasts = new int[STACK_LIMIT];
    private final int[] zeroReaders = new int[STACK_LIMIT];
    private final int[] oneReaders = new int[STACK_LIMIT];
    private final int[] followers = new int[ALL_FOLLOWERS];

    // A pattern in place is held by its states. Those of all places are numbered in one row, so
    // that states of different patterns can be compared.
    private final int[] placedSizes = new int[PLACES];
    private final int[] steps = new int[ALL_STEPS];
    private final boolean[] ends = new boolean[ALL_STATES];

    private final int[] ways = new int[ALL_STATES];
    private final int[] nextWays = new int[ALL_STATES];
    private final int[] groups = new int[ALL_STATES];
    private final int[] finerGroups = new int[ALL_STATES];
    private final boolean[] reached = new boolean[ALL_STATES];

    private int signCount = 0;
    private final int[] signs = new int[TERM_LIMIT];

    private int demandCount = 0;
    private final int[] demandSigns = new int[ALL_DEMAND_SIGNS];
    private final int[] demandSignCounts = new int[DEMAND_LIMIT];
    private final int[] demandPatterns = new int[DEMAND_LIMIT];
    private final boolean[] demandKept = new boolean[DEMAND_LIMIT];

    private int boundCount = 0;
    private final int[] boundA = new int[BOUND_LIMIT];
    private final int[] boundB = new int[BOUND_LIMIT];
    private final int[] boundC = new int[BOUND_LIMIT];
    private final int[] boundD = new int[BOUND_LIMIT];

    public WordSolver() {
        for (int k = 0; k < PLACES; k++) {
            placeEmpty(k);
        }
    }

    public int simple(int what) {
        if (what < 0 || what > EMPTY) {
            return BAD_ARG;
        }
        if (stacked >= STACK_LIMIT) {
            return FULL;
        }
        int position = what == EMPTY ? 0 : 1;
        sizes[stacked] = position;
        withEmpty[stacked] = what == EMPTY;
        firsts[stacked] = position;
        lasts[stacked] = position;
        zeroReaders[stacked] = what == 0 || what == ANY ? position : 0;
        oneReaders[stacked] = what == 1 || what == ANY ? position : 0;
        clearFollowers(stacked);
        stacked++;
        return stacked;
    }

    public int then() {
        int refusal = refusalOfPair();
        if (refusal != ACCEPTED) {
            return refusal;
        }
        int p = stacked - 2;
        int q = stacked - 1;
        int shift = sizes[p];
        int firstsOfQ = firsts[q] << shift;
        int lastsOfQ = lasts[q] << shift;
        takePositions(p, q);
        addFollowers(p, lasts[p], firstsOfQ);
        firsts[p] = withEmpty[p] ? firsts[p] | firstsOfQ : firsts[p];
        lasts[p] = withEmpty[q] ? lasts[p] | lastsOfQ : lastsOfQ;
        withEmpty[p] = withEmpty[p] && withEmpty[q];
        stacked--;
        return stacked;
    }

    public int or() {
        int refusal = refusalOfPair();
        if (refusal != ACCEPTED) {
            return refusal;
        }
        int p = stacked - 2;
        int q = stacked - 1;
        int shift = sizes[p];
        takePositions(p, q);
        firsts[p] |= firsts[q] << shift;
        lasts[p] |= lasts[q] << shift;
        withEmpty[p] = withEmpty[p] || withEmpty[q];
        stacked--;
        return stacked;
    }

    public int many() {
        if (stacked < 1) {
            return TOO_FEW;
        }
        int p = stacked - 1;
        addFollowers(p, lasts[p], firsts[p]);
        withEmpty[p] = true;
        return stacked;
    }

    public int place(int k) {
        if (k < 0 || k >= PLACES) {
            return BAD_ARG;
        }
        if (stacked < 1) {
            return TOO_FEW;
        }
        stacked--;
        placedSizes[k] = sizes[stacked];
        for (int state = 0; state < STATES; state++) {
            placeState(k, state, stacked);
        }
        return stacked;
    }

    public int size(int k) {
        if (k < 0 || k >= PLACES) {
            return BAD_ARG;
        }
        return placedSizes[k];
    }

    public int words(int k, int n) {
        if (k < 0 || k >= PLACES || n < 0 || n > LONGEST_COUNTED) {
            return BAD_ARG;
        }
        return countWords(k, n);
    }

    public boolean same(int k, int j) {
        if (k < 0 || k >= PLACES || j < 0 || j >= PLACES) {
            return false;
        }
        groupStates();
        return groups[k * STATES + START] == groups[j * STATES + START];
    }

    public boolean endless(int k) {
        if (k < 0 || k >= PLACES) {
            return false;
        }
        for (int n = SHORTEST_ENDLESS; n <= LONGEST_ENDLESS; n++) {
            if (countWords(k, n) > 0) {
                return true;
            }
        }
        return false;
    }

    public int rests(int k) {
        if (k < 0 || k >= PLACES) {
            return BAD_ARG;
        }
        groupStates();
        markReached(k);
        int count = 0;
        for (int state = k * STATES; state < (k + 1) * STATES; state++) {
            if (reached[state] && isFirstReachedOfGroup(k, state)) {
                count++;
            }
        }
        return count;
    }

    public int sign(int s) {
        if (s < 0 || s > SIGN_ONE) {
            return BAD_ARG;
        }
        if (signCount >= TERM_LIMIT) {
            return FULL;
        }
        signs[signCount] = s;
        signCount++;
        return signCount;
    }

    public int demand(int k, int kept) {
        if (k < 0 || k >= PLACES || kept < 0 || kept > 1) {
            return BAD_ARG;
        }
        if (demandCount >= DEMAND_LIMIT) {
            return FULL;
        }
        for (int i = 0; i < signCount; i++) {
            demandSigns[demandCount * TERM_LIMIT + i] = signs[i];
        }
        demandSignCounts[demandCount] = signCount;
        demandPatterns[demandCount] = k;
        demandKept[demandCount] = kept == 1;
        signCount = 0;
        demandCount++;
        return demandCount;
    }

    public int bound(int a, int b, int c, int d) {
        if (!isFactor(a) || !isFactor(b) || !isFactor(c) || d < -SUM_LIMIT || d > SUM_LIMIT) {
            return BAD_ARG;
        }
        if (boundCount >= BOUND_LIMIT) {
            return FULL;
        }
        boundA[boundCount] = a;
        boundB[boundCount] = b;
        boundC[boundCount] = c;
        boundD[boundCount] = d;
        boundCount++;
        return boundCount;
    }

    public int drop(int what) {
        if (what < 0 || what > 1) {
            return BAD_ARG;
        }
        int count = what == 0 ? demandCount : boundCount;
        if (count < 1) {
            return NONE;
        }
        if (what == 0) {
            demandCount--;
        } else {
            boundCount--;
        }
        return count - 1;
    }

    public int solutions() {
        int count = 0;
        for (int trial = 0; trial < TRIALS; trial++) {
            if (isSolution(trial)) {
                count++;
            }
        }
        return count;
    }

    public int length(int i) {
        if (i < 0 || i >= UNKNOWNS) {
            return BAD_ARG;
        }
        int trial = firstSolution();
        if (trial == NO_TRIAL) {
            return NONE;
        }
        return lengthIn(trial, i);
    }

    public int letter(int i, int n) {
        if (i < 0 || i >= UNKNOWNS) {
            return BAD_ARG;
        }
        int trial = firstSolution();
        if (trial == NO_TRIAL) {
            return NONE;
        }
        int last = lengthIn(trial, i) - 1;
        if (n < 0 || n > last) {
            return NONE;
        }
        return wordIn(trial, i) >> (last - n) & 1;
    }

    public int lengths(int i) {
        if (i < 0 || i >= UNKNOWNS) {
            return BAD_ARG;
        }
        int set = 0;
        for (int trial = 0; trial < TRIALS; trial++) {
            if (isSolution(trial)) {
                set |= 1 << lengthIn(trial, i);
            }
        }
        return set;
    }

    public int different(int i) {
        if (i < 0 || i >= UNKNOWNS) {
            return BAD_ARG;
        }
        int set = 0;
        for (int trial = 0; trial < TRIALS; trial++) {
            if (isSolution(trial)) {
                set |= 1 << wordIn(trial, i);
            }
        }
        int count = 0;
        for (int word = NO_LETTERS; word <= WORDS; word++) {
            count += set >> word & 1;
        }
        return count;
    }

    public int ofLength(int n) {
        int count = 0;
        for (int trial = 0; trial < TRIALS; trial++) {
            if (sumOfLengths(trial) == n && isSolution(trial)) {
                count++;
            }
        }
        return count;
    }

    /** Whether the two patterns on top of the stack can be made one, or the code that says why not. */
    private int refusalOfPair() {
        if (stacked < 2) {
            return TOO_FEW;
        }
        return sizes[stacked - 2] + sizes[stacked - 1] > SIZE_LIMIT ? FULL : ACCEPTED;
    }

    private void clearFollowers(int slot) {
        for (int position = 0; position < SIZE_LIMIT; position++) {
            followers[slot * SIZE_LIMIT + position] = 0;
        }
    }

    /** Numbers the positions of q behind those of p and gives them to p. */
    private void takePositions(int p, int q) {
        int shift = sizes[p];
        for (int position = 0; position < sizes[q]; position++) {
            int moved = followers[q * SIZE_LIMIT + position] << shift;
            followers[p * SIZE_LIMIT + shift + position] = moved;
        }
        zeroReaders[p] |= zeroReaders[q] << shift;
        oneReaders[p] |= oneReaders[q] << shift;
        sizes[p] += sizes[q];
    }

    /** Lets each position of one set be followed by all of another. */
    private void addFollowers(int slot, int before, int behind) {
        for (int position = 0; position < SIZE_LIMIT; position++) {
            if ((before >> position & 1) == 1) {
                followers[slot * SIZE_LIMIT + position] |= behind;
            }
        }
    }

    private int followersOf(int slot, int positions) {
        int found = 0;
        for (int position = 0; position < SIZE_LIMIT; position++) {
            if ((positions >> position & 1) == 1) {
                found |= followers[slot * SIZE_LIMIT + position];
            }
        }
        return found;
    }

    private void placeEmpty(int k) {
        for (int state = k * STATES; state < (k + 1) * STATES; state++) {
            steps[state * 2] = k * STATES;
            steps[state * 2 + 1] = k * STATES;
        }
        ends[k * STATES + START] = true;
    }

    private void placeState(int k, int state, int slot) {
        int base = k * STATES;
        int next = state == START ? firsts[slot] : followersOf(slot, state);
        steps[(base + state) * 2] = base + (next & zeroReaders[slot]);
        steps[(base + state) * 2 + 1] = base + (next & oneReaders[slot]);
        ends[base + state] = state == START ? withEmpty[slot] : (state & lasts[slot]) != 0;
    }

    private int countWords(int k, int n) {
        for (int state = 0; state < ALL_STATES; state++) {
            ways[state] = 0;
        }
        ways[k * STATES + START] = 1;
        for (int read = 0; read < n; read++) {
            readOneLetter();
        }
        int count = 0;
        for (int state = 0; state < ALL_STATES; state++) {
            count += ends[state] ? ways[state] : 0;
        }
        return count;
    }

    /** From the number of words that lead to each state, that of the words longer by a letter. */
    private void readOneLetter() {
        for (int state = 0; state < ALL_STATES; state++) {
            nextWays[state] = 0;
        }
        for (int state = 0; state < ALL_STATES; state++) {
            nextWays[steps[state * 2]] += ways[state];
            nextWays[steps[state * 2 + 1]] += ways[state];
        }
        for (int state = 0; state < ALL_STATES; state++) {
            ways[state] = nextWays[state];
        }
    }

    /** Puts states in one group if and only if the same words lead from them to an end. */
    private void groupStates() {
        for (int state = 0; state < ALL_STATES; state++) {
            groups[state] = ends[state] ? 1 : 0;
        }
        boolean changed = true;
        // A round that changes more than the names makes more groups, and there are never more
        // groups than states; the first round may change the names alone.
        for (int round = 0; round <= ALL_STATES && changed; round++) {
            changed = splitGroups();
        }
    }

    /** Splits by the groups that a letter leads to; a group is named by its least state. */
    private boolean splitGroups() {
        for (int state = 0; state < ALL_STATES; state++) {
            int least = 0;
            while (least < state && !areAlike(least, state)) {
                least++;
            }
            finerGroups[state] = least;
        }
        boolean changed = false;
        for (int state = 0; state < ALL_STATES; state++) {
            changed = changed || groups[state] != finerGroups[state];
            groups[state] = finerGroups[state];
        }
        return changed;
    }

    private boolean areAlike(int s, int t) {
        return groups[s] == groups[t]
            && groups[steps[s * 2]] == groups[steps[t * 2]]
            && groups[steps[s * 2 + 1]] == groups[steps[t * 2 + 1]];
    }

    private void markReached(int k) {
        for (int state = 0; state < ALL_STATES; state++) {
            reached[state] = false;
        }
        reached[k * STATES + START] = true;
        boolean grew = true;
        for (int round = 0; round < STATES && grew; round++) {
            grew = reachFurther();
        }
    }

    private boolean reachFurther() {
        boolean grew = false;
        for (int state = 0; state < ALL_STATES; state++) {
            if (reached[state]) {
                grew = grew || !reached[steps[state * 2]] || !reached[steps[state * 2 + 1]];
                reached[steps[state * 2]] = true;
                reached[steps[state * 2 + 1]] = true;
            }
        }
        return grew;
    }

    private boolean isFirstReachedOfGroup(int k, int state) {
        for (int earlier = k * STATES; earlier < state; earlier++) {
            if (reached[earlier] && groups[earlier] == groups[state]) {
                return false;
            }
        }
        return true;
    }

    private static boolean isFactor(int a) {
        return a >= -FACTOR_LIMIT && a <= FACTOR_LIMIT;
    }

    /** The word of a sign in a trial; the trials are in the order of the words for the unknowns. */
    private static int wordIn(int trial, int s) {
        switch (s) {
            case 0:
                return NO_LETTERS + trial / (WORDS * WORDS);
            case 1:
                return NO_LETTERS + trial / WORDS % WORDS;
            case 2:
                return NO_LETTERS + trial % WORDS;
            case SIGN_ZERO:
                return WORD_ZERO;
            default:
                return WORD_ONE;
        }
    }

    private static int lengthIn(int trial, int unknown) {
        int word = wordIn(trial, unknown);
        return lengthOf(word);
    }

    private static int sumOfLengths(int trial) {
        return lengthIn(trial, 0) + lengthIn(trial, 1) + lengthIn(trial, 2);
    }

    /** The length of a word of at most 3 letters. */
    private static int lengthOf(int word) {
        if (word < 2) {
            return 0;
        }
        if (word < 4) {
            return 1;
        }
        return word < 8 ? 2 : 3;
    }

    private int firstSolution() {
        int first = NO_TRIAL;
        int leastSum = ABOVE_ALL_SUMS;
        for (int trial = 0; trial < TRIALS; trial++) {
            int sum = sumOfLengths(trial);
            if (sum < leastSum && isSolution(trial)) {
                first = trial;
                leastSum = sum;
            }
        }
        return first;
    }

    private boolean isSolution(int trial) {
        for (int b = 0; b < boundCount; b++) {
            if (!keepsBound(trial, b)) {
                return false;
            }
        }
        for (int d = 0; d < demandCount; d++) {
            if (!keepsDemand(trial, d)) {
                return false;
            }
        }
        return true;
    }

    private boolean keepsBound(int trial, int b) {
        int word0 = wordIn(trial, 0);
        int word1 = wordIn(trial, 1);
        int word2 = wordIn(trial, 2);
        int sum = boundA[b] * lengthOf(word0)
            + boundB[b] * lengthOf(word1)
            + boundC[b] * lengthOf(word2);
        return sum <= boundD[b];
    }

    private boolean keepsDemand(int trial, int d) {
        int term = NO_LETTERS;
        for (int i = 0; i < demandSignCounts[d]; i++) {
            int word = wordIn(trial, demandSigns[d * TERM_LIMIT + i]);
            int length = lengthOf(word);
            term = (term << length) + word - (1 << length);
        }
        return isWordOf(demandPatterns[d], term) == demandKept[d];
    }

    private boolean isWordOf(int k, int word) {
        int state = k * STATES + START;
        for (int digit = LONGEST_TERM - 1; digit >= 0; digit--) {
            // Digits that have no digit above them are the 1 in front of the letters, or no digits.
            if (word >> (digit + 1) != 0) {
                state = steps[state * 2 + (word >> digit & 1)];
            }
        }
        return ends[state];
    }
}
