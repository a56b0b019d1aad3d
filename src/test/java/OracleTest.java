import java.util.ArrayList;
import java.util.List;
import java.util.Random;

/** Benches by chance, each call held against the Oracle's. An argument: how many benches, the first seed. */
public final class OracleTest {
    private static final String NAMES = "abcdefgh";
    private static final String INPUT_NAMES = "xyz";

    private final Kit kit = new Kit("OracleTest");
    private final Random random;
    private String told;
    private SuiteBench bench;
    private Oracle oracle;

    private OracleTest(long seed) {
        random = new Random(seed);
    }

    public static void main(String[] args) {
        int benches = args.length > 0 ? Integer.parseInt(args[0]) : 150;
        int first = args.length > 1 ? Integer.parseInt(args[1]) : 1;
        OracleTest test = new OracleTest(first);
        for (int k = 0; k < benches; k++) {
            test.make();
            test.tryAll();
        }
        test.tryFull();
        test.kit.end();
    }

    /** Benches with the most of something, searched for: by chance alone such ones are seldom met. */
    private void tryFull() {
        String more = "more g;more h;extra 2;";
        // TESTS of SUITE 0 and 1, their INPUTS in sum; the longest TOUR and CHECK; TESTS that are COVERED.
        tryGiven(more, "afdffe-111111", "aacdab-000100", "baeacf-111111");
        tryGiven(more, "dbbefc-000000", "bbbbfb-111111", "bbbbfb-001000");
        tryGiven(more, "fdaecf-000000", "ffafcb-100000", "ffafcf-100000");
        tryGiven(more, "acaaaa-101001", "dafeba-000100", "aaaaac-101001");
        tryGiven(more, "dfabce-111111", "cccccc-000000", "ccccda-000011");
        tryGiven(more, "fffebf-000000", "cfdfff-000000", "ffffff-010000");
        tryGiven(more, "eefcec-111111", "edaede-010000", "eeaadb-101111");
        // FIRST UNLIKE of 13 INPUTS.
        tryGiven("more g;more h;twist a x b 1;twist b x h 1;twist c x g 1;twist d x e 1;twist e x f 0;twist f x c 1;"
            + "twist g x a 1;twist h x d 1;", "ebdbfc-111011");
        // The most MUTANTS.
        tryGiven(more, "bcdefa-999999", "acbedf-000000", "fedcba-123456");
    }

    private void tryGiven(String tail, String... rows) {
        told = String.join(" ", rows) + " " + tail;
        bench = Kit.machine(tail, rows);
        oracle = Oracle.of(bench);
        tryAll();
    }

    private void is(String call, long got, long due) {
        int before = kit.wrong();
        kit.is(call, got, due);
        if (kit.wrong() > before && kit.wrong() <= 50) {
            System.out.println("  of " + told);
        }
    }

    private void make() {
        int states = random.nextInt(12) == 0 ? 0 : 1 + random.nextInt(6);
        int inputs = random.nextInt(12) == 0 ? 0 : 1 + random.nextInt(3);
        int more = states == 0 ? 0 : random.nextInt(3);
        int extra = random.nextInt(3);
        int seed = random.nextInt(3) == 0 ? 0 : random.nextInt(100000);
        int top = random.nextInt(4) == 0 ? random.nextInt(10) : 1;
        int style = random.nextInt(5);
        StringBuilder text = new StringBuilder();
        for (int s = 0; s < states; s++) {
            text.append("state ").append(NAMES.charAt(s)).append(';');
        }
        for (int i = 0; i < inputs; i++) {
            text.append("input ").append(INPUT_NAMES.charAt(i)).append(';');
        }
        for (int m = 0; m < more; m++) {
            text.append("more ").append(NAMES.charAt(states + m)).append(";\n");
        }
        Oracle.Box meant = new Oracle.Box(states, inputs);
        for (int s = 0; s < states; s++) {
            for (int i = 0; i < inputs; i++) {
                if (random.nextInt(10) != 0) {
                    meant.to[s][i] = nextState(states, s, style, i);
                    meant.out[s][i] = nextOutput(top, style);
                    addArc(text, "arc", s, i, meant);
                }
            }
        }
        Oracle.Box built = new Oracle.Box(states + more, inputs);
        for (int s = 0; s < states; s++) {
            built.to[s] = meant.to[s].clone();
            built.out[s] = meant.out[s].clone();
        }
        int twists = states == 0 || inputs == 0 ? 0 : random.nextInt(4);
        for (int k = 0; k < twists; k++) {
            int p = k * (states + more) / twists;
            int i = random.nextInt(inputs);
            if (text.indexOf("twist " + NAMES.charAt(p) + " " + INPUT_NAMES.charAt(i)) < 0) {
                built.to[p][i] = random.nextInt(states + more);
                built.out[p][i] = random.nextInt(top + 1);
                addArc(text, "twist", p, i, built);
            }
        }
        if (extra > 0 || random.nextBoolean()) {
            text.append("extra ").append(extra).append(';');
        }
        if (seed > 0) {
            text.append("seed ").append(seed).append(';');
        }
        told = text.toString();
        // Most benches are used again: nothing of the TEXT ahead may be left.
        bench = bench == null || random.nextInt(4) == 0 ? new SuiteBench() : bench;
        is("text()", Kit.text(bench, told), told.chars().filter(sign -> sign == ';').count());
        is("count(9)", bench.count(9), 0);
        is("count(10)", bench.count(10), 0);
        is("back()", bench.back(), -1);
        oracle = new Oracle(states, inputs, more, extra, seed, meant, built);
    }

    /** Machines by chance alone are soon told apart: some are turned round, some fall together, some are chains. */
    private int nextState(int states, int s, int style, int i) {
        switch (style) {
            case 0:
                return (s + 1 + i) % states;
            case 1:
                return i == 0 ? Math.min(s + 1, states - 1) : random.nextInt(s + 1);
            case 2:
                return random.nextInt((states + 1) / 2);
            default:
                return random.nextInt(states);
        }
    }

    private int nextOutput(int top, int style) {
        return style < 2 && random.nextInt(3) != 0 ? 0 : random.nextInt(top + 1);
    }

    private static void addArc(StringBuilder text, String line, int p, int i, Oracle.Box box) {
        text.append(line).append(' ').append(NAMES.charAt(p)).append(' ').append(INPUT_NAMES.charAt(i)).append(' ');
        text.append(NAMES.charAt(box.to[p][i])).append(' ').append(box.out[p][i]).append(';');
    }

    private void tryAll() {
        tryStates();
        trySuites();
        tryMutants();
        tryBuilt();
        tryDeeds();
        tryTrees();
    }

    private void tryStates() {
        is("count(0)", bench.count(0), oracle.states);
        is("count(1)", bench.count(1), oracle.inputs);
        is("count(2)", bench.count(2), oracle.states + oracle.more);
        is("count(3)", bench.count(3), oracle.extra);
        is("count(4)", bench.count(4), oracle.reached().size());
        is("count(5)", bench.count(5), oracle.kinds());
        is("count(6)", bench.count(6), oracle.top());
        is("count(7)", bench.count(7), oracle.splitters().size());
        List<String> splitters = oracle.splitters();
        for (int k = 0; k <= splitters.size(); k++) {
            int due = oracle.states == 0 ? -1 : k < splitters.size() ? Oracle.number(splitters.get(k)) : -2;
            is("splitter(" + k + ")", bench.splitter(k), due);
        }
        for (int s = 0; s < oracle.states; s++) {
            is("access(" + s + ")", bench.access(s), Oracle.number(oracle.access(s)));
            is("kind(" + s + ")", bench.kind(s), oracle.kind(s));
            is("sign(" + s + ")", bench.sign(s), Oracle.number(oracle.sign(s)));
            List<String> marks = oracle.marks(s);
            for (int k = 0; k <= marks.size(); k++) {
                int due = k < marks.size() ? Oracle.number(marks.get(k)) : -2;
                is("mark(" + s + ", " + k + ")", bench.mark(s, k), due);
            }
            for (int t = 0; t < oracle.states; t++) {
                is("separator(" + s + ", " + t + ")", bench.separator(s, t), Oracle.number(oracle.separator(s, t)));
            }
            for (int k = 0; k < 5; k++) {
                String word = wordByChance();
                int number = Oracle.number(word);
                is("answer", bench.answer(s, number), Oracle.digits(oracle.meant.answer(s, word)));
                is("leads", bench.leads(s, number), oracle.meant.end(s, word));
            }
        }
        is("access", bench.access(oracle.states), -1);
        is("sign", bench.sign(oracle.states), -1);
        for (int what = 0; what < 3; what++) {
            is("word(" + what + ")", bench.word(what), oracle.states == 0 ? -1 : Oracle.number(oracle.word(what)));
        }
    }

    private String wordByChance() {
        StringBuilder word = new StringBuilder();
        int length = oracle.inputs == 0 ? 0 : random.nextInt(16);
        for (int k = 0; k < length; k++) {
            word.append(random.nextInt(oracle.inputs));
        }
        return word.toString();
    }

    private void trySuites() {
        for (int suite = 0; suite < 4; suite++) {
            List<String> tests = oracle.tests(suite);
            int sum = 0;
            int most = 0;
            for (String test : tests) {
                sum += test.length();
                most = Math.max(most, test.length());
            }
            is("suite(" + suite + ", 0)", bench.suite(suite, 0), tests.size());
            is("suite(" + suite + ", 1)", bench.suite(suite, 1), sum);
            is("suite(" + suite + ", 2)", bench.suite(suite, 2), most);
            for (int k = 0; k <= tests.size() && suite < 2; k++) {
                int due = k < tests.size() ? Oracle.number(tests.get(k)) : -2;
                is("test(" + suite + ", " + k + ")", bench.test(suite, k), due);
            }
        }
        for (int what = 0; what < 2; what++) {
            String walk = oracle.states == 0 ? "" : oracle.walk(what == 1);
            for (int k = 0; k <= walk.length(); k++) {
                is("way(" + what + ", " + k + ")", bench.way(what, k), k < walk.length() ? walk.charAt(k) - '0' : -2);
            }
        }
    }

    private void tryMutants() {
        int count = oracle.mutants().size();
        is("count(8)", bench.count(8), count);
        for (int k = 0; k <= count; k++) {
            for (int what = 0; what < 4; what++) {
                is("mutant(" + k + ", " + what + ")", bench.mutant(k, what),
                    k < count ? oracle.mutants().get(k)[what] : -1);
            }
        }
        for (int suite = 0; suite < 4; suite++) {
            int equal = 0;
            int failing = 0;
            int first = -2;
            for (int k = 0; k < count; k++) {
                Oracle.Box box = oracle.mutant(k);
                boolean same = oracle.unlike(oracle.meant, box) == null;
                boolean fails = oracle.failsAny(box, oracle.tests(suite));
                equal += same ? 1 : 0;
                failing += fails ? 1 : 0;
                first = first == -2 && !same && !fails ? k : first;
            }
            is("mutants(" + suite + ", 0)", bench.mutants(suite, 0), count);
            is("mutants(" + suite + ", 1)", bench.mutants(suite, 1), equal);
            is("mutants(" + suite + ", 2)", bench.mutants(suite, 2), failing);
            is("mutants(" + suite + ", 3)", bench.mutants(suite, 3), count - equal - failing);
            is("mutants(" + suite + ", 4)", bench.mutants(suite, 4), first);
        }
        for (int k = 0; k < 20 && count > 0; k++) {
            int one = random.nextInt(count);
            int other = random.nextInt(count);
            is("parts(" + one + ", " + other + ")", bench.parts(one, other),
                Oracle.number(oracle.unlike(oracle.mutant(one), oracle.mutant(other))));
        }
        for (int suite = 0; suite < 2; suite++) {
            is("covered(" + suite + ")", bench.covered(suite), oracle.covered(suite));
            for (int k = 1; k < 3; k++) {
                int[] due = oracle.states == 0 ? new int[] {-1, -1, -1} : oracle.small(k, oracle.tests(suite));
                for (int what = 0; what < 3; what++) {
                    is("small(" + k + ", " + suite + ", " + what + ")", bench.small(k, suite, what), due[what]);
                }
            }
        }
    }

    private void tryBuilt() {
        for (int p = 0; p < oracle.states + oracle.more; p++) {
            for (int i = 0; i < oracle.inputs; i++) {
                is("built(" + p + ", " + i + ", 0)", bench.built(p, i, 0), oracle.built.to[p][i]);
                is("built(" + p + ", " + i + ", 1)", bench.built(p, i, 1), oracle.built.out[p][i]);
            }
        }
        String witness = oracle.unlike(oracle.meant, oracle.built);
        is("witness()", bench.witness(), Oracle.number(witness));
        is("isEqual()", bench.isEqual() ? 1 : 0, witness == null ? 1 : 0);
        is("count(11)", bench.count(11), oracle.oddArcs());
        is("count(12)", bench.count(12), oracle.placesReached());
        for (int suite = 0; suite < 4; suite++) {
            tryVerdict(suite);
        }
        for (int suite = 0; suite < 2; suite++) {
            int due = -2;
            for (int n = 2; n >= 0 && oracle.states > 0; n--) {
                due = oracle.failsAny(oracle.built, oracle.planned(suite, n)) ? n : due;
            }
            is("enough(" + suite + ")", bench.enough(suite), due);
        }
        boolean none = oracle.states == 0 || oracle.inputs == 0;
        for (int n = 1; n <= 15; n += 1 + random.nextInt(4)) {
            int seed = random.nextInt(3) == 0 ? -1 : random.nextInt(Integer.MAX_VALUE);
            is("chance(" + seed + ", " + n + ")", bench.chance(seed, n), none ? -1 : oracle.chance(seed, n));
        }
        String word = wordByChance();
        is("answerBuilt", bench.answerBuilt(Oracle.number(word)),
            oracle.states == 0 ? -1 : Oracle.digits(oracle.built.answer(0, word)));
    }

    private void tryVerdict(int suite) {
        List<String> tests = oracle.tests(suite);
        int failed = 0;
        int first = -2;
        for (int k = 0; k < tests.size(); k++) {
            if (oracle.fails(oracle.built, tests.get(k))) {
                failed++;
                first = first == -2 ? k : first;
            }
        }
        int place = -2;
        int output = -2;
        if (first >= 0) {
            String got = oracle.built.answer(0, tests.get(first));
            String due = oracle.meant.answer(0, tests.get(first));
            place = 0;
            while (got.charAt(place) == due.charAt(place)) {
                place++;
            }
            output = got.charAt(place) - '0';
        }
        is("verdict(" + suite + ", 0)", bench.verdict(suite, 0), failed);
        is("verdict(" + suite + ", 1)", bench.verdict(suite, 1), first);
        is("verdict(" + suite + ", 2)", bench.verdict(suite, 2), place);
        is("verdict(" + suite + ", 3)", bench.verdict(suite, 3), output);
    }

    /** Twisting, mending, mutating, asking, forgetting, undoing, images, one after another by chance. */
    private void tryDeeds() {
        List<Oracle.Box> past = new ArrayList<>();
        Oracle.Box image = null;
        List<String> imageWords = new ArrayList<>();
        List<String> imageAnswers = new ArrayList<>();
        int places = oracle.states + oracle.more;
        int deeds = 10 + random.nextInt(60);
        for (int k = 0; k < deeds; k++) {
            int deed = random.nextInt(16);
            int p = random.nextInt(places + 1);
            int i = random.nextInt(oracle.inputs + 1);
            boolean arc = p < places && i < oracle.inputs;
            Oracle.Box before = oracle.built.copy();
            boolean done = false;
            if (deed < 4) {
                int to = random.nextInt(places + 1);
                int output = random.nextInt(11);
                done = arc && to < places && output < 10;
                is("twist", bench.twist(p, i, to, output) ? 1 : 0, done ? 1 : 0);
                if (done) {
                    oracle.built.to[p][i] = to;
                    oracle.built.out[p][i] = output;
                }
            } else if (deed < 6) {
                done = arc;
                is("mend", bench.mend(p, i) ? 1 : 0, done ? 1 : 0);
                if (done) {
                    oracle.built.to[p][i] = p < oracle.states ? oracle.meant.to[p][i] : p;
                    oracle.built.out[p][i] = p < oracle.states ? oracle.meant.out[p][i] : 0;
                }
            } else if (deed < 8) {
                int m = random.nextInt(oracle.mutants().size() + 1);
                done = m < oracle.mutants().size();
                is("mutate", bench.mutate(m) ? 1 : 0, done ? 1 : 0);
                if (done) {
                    Oracle.Box mutant = oracle.mutant(m);
                    oracle.built = new Oracle.Box(places, oracle.inputs);
                    for (int s = 0; s < oracle.states; s++) {
                        oracle.built.to[s] = mutant.to[s];
                        oracle.built.out[s] = mutant.out[s];
                    }
                }
            } else if (deed < 10) {
                int due = past.isEmpty() ? -1 : past.size() - 1;
                is("undo()", bench.undo(), due);
                if (due >= 0) {
                    oracle.built = past.remove(due);
                }
            } else if (deed < 14) {
                String word = wordByChance();
                long due = oracle.states == 0 ? -1 : oracle.logWords.size() == 20 ? -3
                    : Oracle.digits(oracle.built.answer(0, word));
                is("ask", bench.ask(Oracle.number(word)), due);
                if (due >= 0) {
                    oracle.logWords.add(word);
                    oracle.logAnswers.add(oracle.built.answer(0, word));
                }
            } else if (deed == 14) {
                is("keep()", bench.keep(), oracle.logWords.size());
                image = oracle.built.copy();
                imageWords = new ArrayList<>(oracle.logWords);
                imageAnswers = new ArrayList<>(oracle.logAnswers);
            } else if (random.nextInt(3) == 0) {
                is("forget()", bench.forget(), oracle.logWords.size());
                oracle.logWords.clear();
                oracle.logAnswers.clear();
            } else {
                is("back()", bench.back(), image == null ? -1 : imageWords.size());
                if (image != null) {
                    oracle.built = image.copy();
                    oracle.logWords.clear();
                    oracle.logWords.addAll(imageWords);
                    oracle.logAnswers.clear();
                    oracle.logAnswers.addAll(imageAnswers);
                    past.clear();
                }
            }
            if (done) {
                past.add(before);
                if (past.size() > 20) {
                    past.remove(0);
                }
            }
            is("count(9)", bench.count(9), oracle.logWords.size());
            is("count(10)", bench.count(10), past.size());
            if (k % 5 == 0) {
                trySuspects();
            }
        }
        tryBuilt();
        trySuspects();
        askOn();
    }

    /** NEXT again and again: that is where few SUSPECTS are left. */
    private void askOn() {
        is("forget()", bench.forget(), oracle.logWords.size());
        oracle.logWords.clear();
        oracle.logAnswers.clear();
        trySuspects();
        for (int k = 0; k < 6 && bench.next() >= 0; k++) {
            int number = bench.next();
            StringBuilder word = new StringBuilder();
            for (int rest = number; rest > 0; rest /= 4) {
                word.insert(0, rest % 4 - 1);
            }
            oracle.logWords.add(word.toString());
            oracle.logAnswers.add(oracle.built.answer(0, word.toString()));
            is("ask", bench.ask(number), Oracle.digits(oracle.built.answer(0, word.toString())));
            trySuspects();
        }
    }

    private void trySuspects() {
        List<Integer> suspects = oracle.suspects();
        int machine = suspects.contains(1000) ? 1 : 0;
        is("suspects(0)", bench.suspects(0), suspects.size() - machine);
        is("suspects(1)", bench.suspects(1), machine);
        for (int k = 0; k <= suspects.size(); k++) {
            is("suspect(" + k + ")", bench.suspect(k), k < suspects.size() ? suspects.get(k) : -2);
        }
        is("next()", bench.next(), oracle.next());
    }

    private void tryTrees() {
        for (int set = -1; set <= 1 << oracle.states; set++) {
            boolean none = set < 0 || set >= 1 << oracle.states || Integer.bitCount(set) < 2;
            for (int what = 0; what < 2; what++) {
                is("tree(" + set + ", " + what + ")", bench.tree(set, what), none ? -1 : oracle.tree(set, what));
            }
        }
    }
}
