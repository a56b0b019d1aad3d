import java.util.ArrayList;
import java.util.HashMap;
import java.util.HashSet;
import java.util.List;
import java.util.Map;
import java.util.Set;
import java.util.TreeSet;

/**
 * The document once more, as slow and as near to its words as can be: WORDS are texts of digits, and first WORDS
 * are found by trying all of them in order. It shares nothing with the class that is tested.
 */
final class Oracle {
    static final class Box {
        int[][] to;
        int[][] out;

        Box(int places, int inputs) {
            to = new int[places][inputs];
            out = new int[places][inputs];
            for (int p = 0; p < places; p++) {
                for (int i = 0; i < inputs; i++) {
                    to[p][i] = p;
                }
            }
        }

        Box copy() {
            Box box = new Box(0, 0);
            box.to = new int[to.length][];
            box.out = new int[out.length][];
            for (int p = 0; p < to.length; p++) {
                box.to[p] = to[p].clone();
                box.out[p] = out[p].clone();
            }
            return box;
        }

        String answer(int from, String word) {
            StringBuilder told = new StringBuilder();
            int at = from;
            for (int k = 0; k < word.length(); k++) {
                int i = word.charAt(k) - '0';
                told.append(out[at][i]);
                at = to[at][i];
            }
            return told.toString();
        }

        int end(int from, String word) {
            int at = from;
            for (int k = 0; k < word.length(); k++) {
                at = to[at][word.charAt(k) - '0'];
            }
            return at;
        }
    }

    final int states;
    final int inputs;
    final int more;
    final int extra;
    final int seed;
    final Box meant;
    Box built;
    final List<String> logWords = new ArrayList<>();
    final List<String> logAnswers = new ArrayList<>();
    private final List<List<String>> byLength = new ArrayList<>();
    private final Map<String, List<String>> suiteMemo = new HashMap<>();
    private final Map<Integer, String> signMemo = new HashMap<>();
    private final Map<String, Boolean> treeMemo = new HashMap<>();
    private List<int[]> mutantMemo;

    Oracle(int states, int inputs, int more, int extra, int seed, Box meant, Box built) {
        this.states = states;
        this.inputs = inputs;
        this.more = more;
        this.extra = extra;
        this.seed = seed;
        this.meant = meant;
        this.built = built;
        byLength.add(List.of(""));
    }

    /** The Oracle of a bench as it is: its ARCS are those that it tells, the seed is 0. */
    static Oracle of(SuiteBench bench) {
        int states = bench.count(0);
        int inputs = bench.count(1);
        int more = bench.count(2) - states;
        Box meant = new Box(states, inputs);
        Box built = new Box(states + more, inputs);
        for (int p = 0; p < states + more; p++) {
            for (int i = 0; i < inputs; i++) {
                built.to[p][i] = bench.built(p, i, 0);
                built.out[p][i] = bench.built(p, i, 1);
                if (p < states) {
                    meant.to[p][i] = bench.arc(p, i, 0);
                    meant.out[p][i] = bench.arc(p, i, 1);
                }
            }
        }
        return new Oracle(states, inputs, more, bench.count(3), 0, meant, built);
    }

    List<String> words(int length) {
        while (byLength.size() <= length) {
            List<String> longer = new ArrayList<>();
            for (String word : byLength.get(byLength.size() - 1)) {
                for (int i = 0; i < inputs; i++) {
                    longer.add(word + i);
                }
            }
            byLength.add(longer);
        }
        return byLength.get(length);
    }

    static int number(String word) {
        return word == null ? -2 : Kit.word(word);
    }

    static long digits(String answer) {
        return answer.isEmpty() ? 0 : Long.parseLong(answer);
    }

    String access(int state) {
        for (int length = 0; length < 6; length++) {
            for (String word : words(length)) {
                if (meant.end(0, word) == state) {
                    return word;
                }
            }
        }
        return null;
    }

    List<Integer> reached() {
        List<Integer> found = new ArrayList<>();
        for (int s = 0; s < states; s++) {
            if (access(s) != null) {
                found.add(s);
            }
        }
        return found;
    }

    String separator(int one, int other) {
        for (int length = 1; length <= 6; length++) {
            for (String word : words(length)) {
                if (!meant.answer(one, word).equals(meant.answer(other, word))) {
                    return word;
                }
            }
        }
        return null;
    }

    int kind(int state) {
        for (int s = 0; s < state; s++) {
            if (separator(s, state) == null) {
                return s;
            }
        }
        return state;
    }

    int kinds() {
        int kinds = 0;
        List<Integer> reached = reached();
        for (int k = 0; k < reached.size(); k++) {
            boolean fresh = true;
            for (int j = 0; j < k; j++) {
                fresh &= separator(reached.get(j), reached.get(k)) != null;
            }
            kinds += fresh ? 1 : 0;
        }
        return kinds;
    }

    List<String> splitters() {
        List<String> found = new ArrayList<>();
        List<Integer> reached = reached();
        for (int j = 0; j < reached.size(); j++) {
            for (int k = j + 1; k < reached.size(); k++) {
                String separator = separator(reached.get(j), reached.get(k));
                boolean same = true;
                for (String word : found) {
                    same &= meant.answer(reached.get(j), word).equals(meant.answer(reached.get(k), word));
                }
                if (separator != null && same) {
                    found.add(separator);
                }
            }
        }
        if (found.isEmpty() && states > 0) {
            found.add("");
        }
        return found;
    }

    private static TreeSet<String> ordered() {
        return new TreeSet<>((a, b) -> a.length() != b.length() ? a.length() - b.length() : a.compareTo(b));
    }

    List<String> marks(int state) {
        TreeSet<String> found = ordered();
        for (int s : reached()) {
            String separator = separator(state, s);
            if (separator != null) {
                found.add(separator);
            }
        }
        if (found.isEmpty()) {
            found.add("");
        }
        return new ArrayList<>(found);
    }

    String sign(int state) {
        if (!signMemo.containsKey(state)) {
            signMemo.put(state, sign(state, 8));
        }
        return signMemo.get(state);
    }

    /** WITHIN so many INPUTS. */
    String sign(int state, int within) {
        List<Integer> reached = reached();
        for (int length = 0; length <= within; length++) {
            for (String word : words(length)) {
                boolean alone = true;
                for (int s : reached) {
                    alone &= s == state || !meant.answer(s, word).equals(meant.answer(state, word));
                }
                if (alone) {
                    return word;
                }
            }
        }
        return null;
    }

    /** SUITE 0 .. 1 for n. */
    List<String> planned(int suite, int n) {
        String key = suite + "/" + n;
        if (!suiteMemo.containsKey(key)) {
            suiteMemo.put(key, plan(suite, n));
        }
        return suiteMemo.get(key);
    }

    private List<String> plan(int suite, int n) {
        TreeSet<String> all = ordered();
        List<String> splitters = splitters();
        List<List<String>> marks = new ArrayList<>();
        for (int s = 0; s < states; s++) {
            marks.add(marks(s));
        }
        for (int s : reached()) {
            for (int length = 0; length <= n + 1; length++) {
                for (String behind : words(length)) {
                    String head = access(s) + behind;
                    for (String tail : suite == 0 ? splitters : marks.get(meant.end(0, head))) {
                        all.add(head + tail);
                    }
                }
            }
        }
        Set<String> begins = new HashSet<>();
        for (String word : all) {
            for (int length = 0; length < word.length(); length++) {
                begins.add(word.substring(0, length));
            }
        }
        List<String> tests = new ArrayList<>();
        for (String word : all) {
            if (!begins.contains(word)) {
                tests.add(word);
            }
        }
        return tests;
    }

    String walk(boolean check) {
        Set<Integer> taken = new HashSet<>();
        StringBuilder gone = new StringBuilder();
        int at = 0;
        for (String word = toNew(at, taken); word != null; word = toNew(at, taken)) {
            at = take(at, word, taken);
            gone.append(word);
            String sign = check ? sign(at) : null;
            if (sign != null) {
                at = take(at, sign, taken);
                gone.append(sign);
            }
        }
        return gone.toString();
    }

    private int take(int from, String word, Set<Integer> taken) {
        int at = from;
        for (int k = 0; k < word.length(); k++) {
            int i = word.charAt(k) - '0';
            taken.add(at * 10 + i);
            at = meant.to[at][i];
        }
        return at;
    }

    private String toNew(int at, Set<Integer> taken) {
        for (int length = 1; length <= 6; length++) {
            for (String word : words(length)) {
                int last = meant.end(at, word.substring(0, length - 1));
                if (!taken.contains(last * 10 + word.charAt(length - 1) - '0')) {
                    return word;
                }
            }
        }
        return null;
    }

    List<String> tests(int suite) {
        if (states == 0) {
            return List.of();
        }
        return suite < 2 ? planned(suite, extra) : List.of(walk(suite == 3));
    }

    boolean fails(Box box, String test) {
        return !box.answer(0, test).equals(meant.answer(0, test));
    }

    boolean failsAny(Box box, List<String> tests) {
        for (String test : tests) {
            if (fails(box, test)) {
                return true;
            }
        }
        return false;
    }

    /** By how many INPUTS at least two places are told apart, then INPUT by INPUT. */
    String unlike(Box one, Box other) {
        if (states == 0) {
            return null;
        }
        int a = one.to.length;
        int b = other.to.length;
        int[][] apart = new int[a][b];
        for (int length = 1; length <= a + b; length++) {
            for (int p = 0; p < a; p++) {
                for (int q = 0; q < b; q++) {
                    for (int i = 0; i < inputs && apart[p][q] == 0; i++) {
                        boolean now = one.out[p][i] != other.out[q][i];
                        boolean then = apart[one.to[p][i]][other.to[q][i]] == length - 1 && length > 1;
                        if (now ? length == 1 : then) {
                            apart[p][q] = length;
                        }
                    }
                }
            }
        }
        if (apart[0][0] == 0) {
            return null;
        }
        StringBuilder word = new StringBuilder();
        int p = 0;
        int q = 0;
        for (int left = apart[0][0]; left > 0; left--) {
            for (int i = 0; i < inputs; i++) {
                boolean fits = left == 1 ? one.out[p][i] != other.out[q][i]
                    : apart[one.to[p][i]][other.to[q][i]] == left - 1;
                if (fits) {
                    word.append(i);
                    int next = one.to[p][i];
                    q = other.to[q][i];
                    p = next;
                    break;
                }
            }
        }
        return word.toString();
    }

    int top() {
        int top = 1;
        for (int[] row : meant.out) {
            for (int output : row) {
                top = Math.max(top, output);
            }
        }
        return top;
    }

    List<int[]> mutants() {
        if (mutantMemo == null) {
            mutantMemo = new ArrayList<>();
            for (int s : reached()) {
                for (int i = 0; i < inputs; i++) {
                    for (int next = 0; next < states; next++) {
                        if (next != meant.to[s][i]) {
                            mutantMemo.add(new int[] {s, i, next, meant.out[s][i]});
                        }
                    }
                    for (int output = 0; output <= top(); output++) {
                        if (output != meant.out[s][i]) {
                            mutantMemo.add(new int[] {s, i, meant.to[s][i], output});
                        }
                    }
                }
            }
        }
        return mutantMemo;
    }

    Box mutant(int k) {
        int[] odd = mutants().get(k);
        Box box = meant.copy();
        box.to[odd[0]][odd[1]] = odd[2];
        box.out[odd[0]][odd[1]] = odd[3];
        return box;
    }

    int covered(int suite) {
        List<String> tests = tests(suite);
        List<Set<Integer>> failing = new ArrayList<>();
        Set<Integer> left = new HashSet<>();
        for (String test : tests) {
            Set<Integer> row = new HashSet<>();
            for (int k = 0; k < mutants().size(); k++) {
                if (fails(mutant(k), test)) {
                    row.add(k);
                }
            }
            failing.add(row);
            left.addAll(row);
        }
        int taken = 0;
        while (!left.isEmpty()) {
            int best = 0;
            int most = -1;
            for (int t = 0; t < tests.size(); t++) {
                Set<Integer> some = new HashSet<>(failing.get(t));
                some.retainAll(left);
                if (some.size() > most) {
                    most = some.size();
                    best = t;
                }
            }
            left.removeAll(failing.get(best));
            taken++;
        }
        return taken;
    }

    /** All, those that FAIL none of the TESTS, those that are EQUAL. */
    int[] small(int k, List<String> tests) {
        int arcs = k * inputs;
        int all = 1;
        for (int arc = 0; arc < arcs; arc++) {
            all *= 2 * k;
        }
        int[] found = {all, 0, 0};
        for (int number = 0; number < all; number++) {
            Box box = new Box(k, inputs);
            int rest = number;
            for (int arc = 0; arc < arcs; arc++) {
                int digit = rest % (2 * k);
                rest /= 2 * k;
                box.to[arc / inputs][arc % inputs] = digit % k;
                box.out[arc / inputs][arc % inputs] = digit / k;
            }
            found[1] += failsAny(box, tests) ? 0 : 1;
            found[2] += unlike(meant, box) == null ? 1 : 0;
        }
        return found;
    }

    boolean canTell(List<int[]> beganAndAt, int left) {
        if (beganAndAt.size() < 2) {
            return true;
        }
        if (left == 0) {
            return false;
        }
        StringBuilder key = new StringBuilder().append(left);
        for (int[] pair : beganAndAt) {
            key.append(' ').append(pair[0]).append(pair[1]);
        }
        Boolean known = treeMemo.get(key.toString());
        if (known == null) {
            known = false;
            for (int i = 0; i < inputs && !known; i++) {
                known = canTellBy(beganAndAt, i, left);
            }
            treeMemo.put(key.toString(), known);
        }
        return known;
    }

    private boolean canTellBy(List<int[]> beganAndAt, int input, int left) {
        for (int output = 0; output < 10; output++) {
            List<int[]> part = new ArrayList<>();
            for (int[] pair : beganAndAt) {
                if (meant.out[pair[1]][input] == output) {
                    part.add(new int[] {pair[0], meant.to[pair[1]][input]});
                }
            }
            if (!canTell(part, left - 1)) {
                return false;
            }
        }
        return true;
    }

    int tree(int set, int what) {
        return tree(set, what, 8);
    }

    int tree(int set, int what, int within) {
        List<int[]> all = new ArrayList<>();
        for (int s = 0; s < states; s++) {
            if ((set >> s & 1) == 1) {
                all.add(new int[] {s, s});
            }
        }
        for (int depth = 1; depth <= within; depth++) {
            for (int i = 0; i < inputs; i++) {
                if (canTellBy(all, i, depth)) {
                    return what == 0 ? depth : i;
                }
            }
        }
        return -2;
    }

    String word(int what) {
        return word(what, 8);
    }

    String word(int what, int within) {
        List<Integer> reached = reached();
        for (int length = 0; length <= within; length++) {
            for (String word : words(length)) {
                boolean holds = true;
                for (int one : reached) {
                    for (int other : reached) {
                        boolean sameAnswer = meant.answer(one, word).equals(meant.answer(other, word));
                        boolean sameEnd = meant.end(one, word) == meant.end(other, word);
                        boolean fits = what == 0 ? !sameAnswer : what == 1 ? !sameAnswer || sameEnd : sameEnd;
                        holds &= one == other || fits;
                    }
                }
                if (holds) {
                    return word;
                }
            }
        }
        return null;
    }

    List<Integer> suspects() {
        List<Integer> found = new ArrayList<>();
        for (int k = 0; k < mutants().size(); k++) {
            if (fitsLog(mutant(k))) {
                found.add(k);
            }
        }
        if (states > 0 && fitsLog(meant)) {
            found.add(1000);
        }
        return found;
    }

    private boolean fitsLog(Box box) {
        for (int k = 0; k < logWords.size(); k++) {
            if (!box.answer(0, logWords.get(k)).equals(logAnswers.get(k))) {
                return false;
            }
        }
        return true;
    }

    int next() {
        List<Integer> suspects = suspects();
        if (suspects.size() < 2) {
            return -2;
        }
        List<Box> boxes = new ArrayList<>();
        for (int k = 0; k < suspects.size() && k < 40; k++) {
            boxes.add(suspects.get(k) == 1000 ? meant : mutant(suspects.get(k)));
        }
        String best = null;
        int least = Integer.MAX_VALUE;
        for (String test : tests(1)) {
            Map<String, Integer> sizes = new HashMap<>();
            int greatest = 0;
            for (Box box : boxes) {
                greatest = Math.max(greatest, sizes.merge(box.answer(0, test), 1, Integer::sum));
            }
            if (greatest < least) {
                least = greatest;
                best = test;
            }
        }
        return number(best);
    }

    int chance(int from, int n) {
        long last = from == -1 ? seed : from;
        int wrong = 0;
        for (int w = 0; w < 10; w++) {
            StringBuilder word = new StringBuilder();
            for (int k = 0; k < n; k++) {
                last = (last * 1103515245L + 12345L) % (1L << 31);
                word.append(last / 65536 % inputs);
            }
            wrong += fails(built, word.toString()) ? 1 : 0;
        }
        return wrong;
    }

    int placesReached() {
        Set<Integer> seen = new HashSet<>();
        if (states > 0) {
            seen.add(0);
        }
        for (int round = 0; round < 9; round++) {
            for (int p : new ArrayList<>(seen)) {
                for (int next : built.to[p]) {
                    seen.add(next);
                }
            }
        }
        return seen.size();
    }

    int oddArcs() {
        int odd = 0;
        for (int p = 0; p < states + more; p++) {
            for (int i = 0; i < inputs; i++) {
                int to = p < states ? meant.to[p][i] : p;
                int out = p < states ? meant.out[p][i] : 0;
                odd += built.to[p][i] != to || built.out[p][i] != out ? 1 : 0;
            }
        }
        return odd;
    }
}
