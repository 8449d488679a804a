import java.util.ArrayList;
import java.util.Comparator;
import java.util.HashMap;
import java.util.HashSet;
import java.util.LinkedHashSet;
import java.util.List;
import java.util.Map;
import java.util.Set;
import java.util.TreeMap;

/**
 * Long runs of calls, drawn by a fixed rule, against a model that is made in another way: it keeps
 * a pattern as it was made and takes letters off it in front, and it lists all solutions.
 */
public final class ModelTest {
    private static final int RUNS = 100;
    private static final int CALLS = 500;

    private static long drawn = 20261115;

    public static void main(String[] args) {
        for (int run = 0; run < RUNS; run++) {
            WordSolver x = new WordSolver();
            Model m = new Model();
            for (int call = 0; call < CALLS; call++) {
                callBoth("run " + run + ", call " + call + ": ", x, m);
            }
        }
        Due.end();
    }

    private static int draw(int below) {
        drawn = drawn * 6364136223846793005L + 1442695040888963407L;
        return (int) ((drawn >>> 33) % below);
    }

    /** Mostly inside the range; now and then one beside it. */
    private static int near(int least, int most) {
        return draw(25) == 0 ? (draw(2) == 0 ? least - 1 : most + 1) : least + draw(most - least + 1);
    }

    private static void callBoth(String where, WordSolver x, Model m) {
        int a = near(0, 2);
        int b = near(0, 2);
        switch (draw(30)) {
            case 0: case 1: case 2: case 3: case 4: case 5: {
                int what = near(0, 3);
                Due.eq(where + "simple(" + what + ")", x.simple(what), m.simple(what));
                break;
            }
            case 6: case 7: case 8: Due.eq(where + "then()", x.then(), m.pair(false)); break;
            case 9: case 10: Due.eq(where + "or()", x.or(), m.pair(true)); break;
            case 11: case 12: Due.eq(where + "many()", x.many(), m.many()); break;
            case 13: Due.eq(where + "place(" + a + ")", x.place(a), m.place(a)); break;
            case 14: Due.eq(where + "size(" + a + ")", x.size(a), m.size(a)); break;
            case 15: {
                int n = near(0, 20);
                Due.eq(where + "words(" + a + ", " + n + ")", x.words(a, n), m.words(a, n));
                break;
            }
            case 16: Due.is(where + "same(" + a + ", " + b + ")", x.same(a, b), m.same(a, b)); break;
            case 17: Due.is(where + "endless(" + a + ")", x.endless(a), m.endless(a)); break;
            case 18: Due.eq(where + "rests(" + a + ")", x.rests(a), m.rests(a)); break;
            case 19: case 20: case 21: {
                int s = near(0, 4);
                Due.eq(where + "sign(" + s + ")", x.sign(s), m.sign(s));
                break;
            }
            case 22: {
                int kept = near(0, 1);
                Due.eq(where + "demand(" + a + ", " + kept + ")", x.demand(a, kept), m.demand(a, kept));
                break;
            }
            case 23: {
                int[] f = {near(-3, 3), near(-3, 3), near(-3, 3), draw(2) == 0 ? near(-20, 20) : near(-3, 6)};
                Due.eq(where + "bound", x.bound(f[0], f[1], f[2], f[3]), m.bound(f));
                break;
            }
            case 24: case 25: {
                int what = near(0, 1);
                Due.eq(where + "drop(" + what + ")", x.drop(what), m.drop(what));
                break;
            }
            case 26: Due.eq(where + "solutions()", x.solutions(), m.solutions().size()); break;
            case 27: Due.eq(where + "length(" + a + ")", x.length(a), m.length(a)); break;
            case 28: {
                int n = near(0, 2);
                Due.eq(where + "letter(" + a + ", " + n + ")", x.letter(a, n), m.letter(a, n));
                break;
            }
            default: {
                int n = near(0, 9);
                Due.eq(where + "lengths(" + a + ")", x.lengths(a), m.lengths(a));
                Due.eq(where + "different(" + a + ")", x.different(a), m.different(a));
                Due.eq(where + "ofLength(" + n + ")", x.ofLength(n), m.ofLength(n));
            }
        }
    }

    /**
     * A pattern as it was made, by its kind: 'e' empty, '0', '1', '?' any, 't' then, 'o' or of any
     * number of patterns, of none too (the set without words), 'm' many. Each is made only once.
     */
    private static final class Pattern {
        private static final Map<String, Pattern> MADE = new HashMap<>();

        private final int number;
        private final char kind;
        private final List<Pattern> parts;
        private final Map<Character, Pattern> rests = new HashMap<>();

        private Pattern(char kind, List<Pattern> parts) {
            this.number = MADE.size();
            this.kind = kind;
            this.parts = parts;
        }

        static Pattern of(char kind, Pattern... parts) {
            StringBuilder key = new StringBuilder().append(kind);
            for (Pattern p : parts) {
                key.append(' ').append(p.number);
            }
            Pattern known = MADE.get(key.toString());
            if (known == null) {
                known = new Pattern(kind, List.of(parts));
                MADE.put(key.toString(), known);
            }
            return known;
        }

        boolean hasEmpty() {
            switch (kind) {
                case 'e': case 'm': return true;
                case 't': return parts.stream().allMatch(Pattern::hasEmpty);
                case 'o': return parts.stream().anyMatch(Pattern::hasEmpty);
                default: return false;
            }
        }

        Pattern without(char front) {
            Pattern rest = rests.get(front);
            if (rest == null) {
                rest = takeOff(front);
                rests.put(front, rest);
            }
            return rest;
        }

        private Pattern takeOff(char front) {
            switch (kind) {
                case 'e': return or();
                case 'm': return then(parts.get(0).without(front), this);
                case 'o': return or(parts.stream().map(p -> p.without(front)).toArray(Pattern[]::new));
                case 't': {
                    Pattern left = then(parts.get(0).without(front), parts.get(1));
                    return parts.get(0).hasEmpty() ? or(left, parts.get(1).without(front)) : left;
                }
                default: return kind == front || kind == '?' ? of('e') : or();
            }
        }
    }

    private static Pattern then(Pattern p, Pattern q) {
        if (p == or() || q == or()) {
            return or();
        }
        return p == Pattern.of('e') ? q : Pattern.of('t', p, q);
    }

    /** In one order and without repeats, so that there are finitely many ways to go on. */
    private static Pattern or(Pattern... patterns) {
        Map<Integer, Pattern> all = new TreeMap<>();
        for (Pattern p : patterns) {
            for (Pattern part : p.kind == 'o' ? p.parts : List.of(p)) {
                all.put(part.number, part);
            }
        }
        return all.size() == 1 ? all.values().iterator().next()
            : Pattern.of('o', all.values().toArray(new Pattern[0]));
    }

    private static boolean describeTheSame(Pattern p, Pattern q) {
        Set<List<Pattern>> seen = new HashSet<>();
        List<List<Pattern>> open = new ArrayList<>();
        open.add(List.of(p, q));
        while (!open.isEmpty()) {
            List<Pattern> pair = open.remove(open.size() - 1);
            if (pair.get(0).hasEmpty() != pair.get(1).hasEmpty()) {
                return false;
            }
            if (seen.add(pair)) {
                open.add(List.of(pair.get(0).without('0'), pair.get(1).without('0')));
                open.add(List.of(pair.get(0).without('1'), pair.get(1).without('1')));
            }
        }
        return true;
    }

    private record Sized(Pattern pattern, int size, boolean endless) {
    }

    private record Demand(List<Integer> signs, int k, boolean kept) {
    }

    private static final class Model {
        private static final List<String> WORDS = List.of("", "0", "1", "00", "01", "10", "11",
            "000", "001", "010", "011", "100", "101", "110", "111");

        private final List<Sized> stack = new ArrayList<>();
        private final Sized[] places = new Sized[3];
        private List<Integer> term = new ArrayList<>();
        private final List<Demand> demands = new ArrayList<>();
        private final List<int[]> bounds = new ArrayList<>();
        private List<List<String>> solutions = null;

        Model() {
            for (int k = 0; k < 3; k++) {
                places[k] = new Sized(Pattern.of('e'), 0, false);
            }
        }

        private static boolean outside(int k) {
            return k < 0 || k > 2;
        }

        private Sized pop() {
            return stack.remove(stack.size() - 1);
        }

        int simple(int what) {
            if (what < 0 || what > 3) {
                return -1;
            }
            if (stack.size() == 5) {
                return -2;
            }
            stack.add(new Sized(Pattern.of("01?e".charAt(what)), what == 3 ? 0 : 1, false));
            return stack.size();
        }

        int pair(boolean isOr) {
            if (stack.size() < 2) {
                return -3;
            }
            if (stack.get(stack.size() - 1).size() + stack.get(stack.size() - 2).size() > 6) {
                return -2;
            }
            Sized q = pop();
            Sized p = pop();
            Pattern both = isOr ? or(p.pattern(), q.pattern()) : then(p.pattern(), q.pattern());
            stack.add(new Sized(both, p.size() + q.size(), p.endless() || q.endless()));
            return stack.size();
        }

        int many() {
            if (stack.isEmpty()) {
                return -3;
            }
            Sized p = pop();
            stack.add(new Sized(Pattern.of('m', p.pattern()), p.size(), p.size() > 0));
            return stack.size();
        }

        int place(int k) {
            if (outside(k)) {
                return -1;
            }
            if (stack.isEmpty()) {
                return -3;
            }
            places[k] = pop();
            solutions = null;
            return stack.size();
        }

        int size(int k) {
            return outside(k) ? -1 : places[k].size();
        }

        int words(int k, int n) {
            if (outside(k) || n < 0 || n > 20) {
                return -1;
            }
            Map<Pattern, Integer> ways = Map.of(places[k].pattern(), 1);
            for (int read = 0; read < n; read++) {
                Map<Pattern, Integer> next = new HashMap<>();
                for (Map.Entry<Pattern, Integer> e : ways.entrySet()) {
                    next.merge(e.getKey().without('0'), e.getValue(), Integer::sum);
                    next.merge(e.getKey().without('1'), e.getValue(), Integer::sum);
                }
                ways = next;
            }
            return ways.entrySet().stream().filter(e -> e.getKey().hasEmpty()).mapToInt(Map.Entry::getValue).sum();
        }

        boolean same(int k, int j) {
            return !outside(k) && !outside(j) && describeTheSame(places[k].pattern(), places[j].pattern());
        }

        boolean endless(int k) {
            return !outside(k) && places[k].endless();
        }

        int rests(int k) {
            if (outside(k)) {
                return -1;
            }
            Set<Pattern> found = new LinkedHashSet<>();
            List<Pattern> open = new ArrayList<>(List.of(places[k].pattern()));
            while (!open.isEmpty()) {
                Pattern p = open.remove(open.size() - 1);
                if (found.add(p)) {
                    open.add(p.without('0'));
                    open.add(p.without('1'));
                }
            }
            List<Pattern> unlike = new ArrayList<>();
            for (Pattern p : found) {
                if (unlike.stream().noneMatch(q -> describeTheSame(p, q))) {
                    unlike.add(p);
                }
            }
            return unlike.size();
        }

        int sign(int s) {
            if (s < 0 || s > 4) {
                return -1;
            }
            if (term.size() == 4) {
                return -2;
            }
            term.add(s);
            return term.size();
        }

        int demand(int k, int kept) {
            if (outside(k) || kept < 0 || kept > 1) {
                return -1;
            }
            if (demands.size() == 6) {
                return -2;
            }
            demands.add(new Demand(term, k, kept == 1));
            term = new ArrayList<>();
            solutions = null;
            return demands.size();
        }

        int bound(int[] f) {
            for (int n = 0; n < 4; n++) {
                int limit = n == 3 ? 20 : 3;
                if (f[n] < -limit || f[n] > limit) {
                    return -1;
                }
            }
            if (bounds.size() == 3) {
                return -2;
            }
            bounds.add(f);
            solutions = null;
            return bounds.size();
        }

        int drop(int what) {
            if (what < 0 || what > 1) {
                return -1;
            }
            List<?> list = what == 0 ? demands : bounds;
            if (list.isEmpty()) {
                return -4;
            }
            list.remove(list.size() - 1);
            solutions = null;
            return list.size();
        }

        private boolean keepsBounds(List<String> three) {
            return bounds.stream().allMatch(f -> f[0] * three.get(0).length()
                + f[1] * three.get(1).length() + f[2] * three.get(2).length() <= f[3]);
        }

        private boolean keeps(List<String> three, Demand d, Map<String, Boolean> known) {
            StringBuilder word = new StringBuilder();
            for (int s : d.signs()) {
                word.append(s < 3 ? three.get(s) : s == 3 ? "0" : "1");
            }
            return known.computeIfAbsent(word.toString(), w -> isWordOf(d.k(), w)) == d.kept();
        }

        private boolean isWordOf(int k, String word) {
            Pattern p = places[k].pattern();
            for (char c : word.toCharArray()) {
                p = p.without(c);
            }
            return p.hasEmpty();
        }

        /** All solutions, the first one in front. */
        List<List<String>> solutions() {
            if (solutions != null) {
                return solutions;
            }
            solutions = new ArrayList<>();
            for (String u : WORDS) {
                for (String v : WORDS) {
                    for (String w : WORDS) {
                        solutions.add(List.of(u, v, w));
                    }
                }
            }
            solutions.removeIf(three -> !keepsBounds(three));
            for (Demand d : demands) {
                Map<String, Boolean> known = new HashMap<>();
                solutions.removeIf(three -> !keeps(three, d, known));
            }
            Comparator<List<String>> order = Comparator.comparingInt(Model::sum);
            for (int i = 0; i < 3; i++) {
                int unknown = i;
                order = order.thenComparingInt(three -> three.get(unknown).length())
                    .thenComparing(three -> three.get(unknown));
            }
            solutions.sort(order);
            return solutions;
        }

        private static int sum(List<String> three) {
            return String.join("", three).length();
        }

        int length(int i) {
            if (outside(i)) {
                return -1;
            }
            return solutions().isEmpty() ? -4 : solutions().get(0).get(i).length();
        }

        int letter(int i, int n) {
            int length = length(i);
            if (length < 0) {
                return length;
            }
            return n < 0 || n >= length ? -4 : solutions().get(0).get(i).charAt(n) - '0';
        }

        int lengths(int i) {
            if (outside(i)) {
                return -1;
            }
            return solutions().stream().mapToInt(three -> 1 << three.get(i).length()).distinct().sum();
        }

        int different(int i) {
            return outside(i) ? -1 : (int) solutions().stream().map(three -> three.get(i)).distinct().count();
        }

        int ofLength(int n) {
            return (int) solutions().stream().filter(three -> sum(three) == n).count();
        }
    }
}
