/**
 * Each argument of each call: the least and the most that there is, what lies beyond on both sides, and that nothing
 * has changed by what was refused. The bench is that of Twins: 3 STATES, 2 INPUTS, 1 of MORE.
 */
public final class RangeTest {
    private static final int X = 1;

    private final Kit kit = new Kit("RangeTest");
    private final Twins twins = new Twins(kit);

    public static void main(String[] args) {
        RangeTest test = new RangeTest();
        test.theBench();
        test.tape();
        test.arcs();
        test.words();
        test.states();
        test.rows();
        test.suites();
        test.mutants();
        test.suspicion();
        test.deeds();
        test.counts();
        test.kit.end();
    }

    /** What Twins says of its bench holds: else the edges would be elsewhere. */
    private void theBench() {
        SuiteBench bench = Twins.used();
        kit.is("STATES", bench.count(0), Twins.STATES);
        kit.is("INPUTS", bench.count(1), Twins.INPUTS);
        kit.is("PLACES", bench.count(2), Twins.PLACES);
        kit.is("in THE LOG", bench.count(9), Twins.LOGGED);
        kit.is("can be undone", bench.count(10), Twins.UNDONE);
        kit.is("a FAULT", bench.fault(0), 3);
        kit.is("an IMAGE", bench.back(), 1);
        kit.is("twenty bytes on the TAPE", bench.feed(0, 0, 0, 0, 0), 40);
    }

    // Promises 3 to 5
    private void tape() {
        for (int n : new int[] {Integer.MIN_VALUE, -1, 21, 700, 701, Integer.MAX_VALUE}) {
            twins.refused("text(" + n + ") of 20", bench -> bench.text(n), -2);
        }
        kit.is("text(20) of 20", Twins.used().text(20), 2);
        kit.is("text(0) of 20", Twins.used().text(0), 0);
        twins.range("fault(what)", (bench, k) -> bench.fault(k), 0, 1, -1);
        for (int letters : new int[] {0, 1, -1, Integer.MIN_VALUE, Integer.MAX_VALUE, Kit.letters("q"), Kit.letters("z")}) {
            twins.refused("named(" + letters + ")", bench -> bench.named(letters), -1);
        }
    }

    // Promises 6, 7
    private void arcs() {
        twins.range("arc(state, 0, 0)", (bench, k) -> Twins.arc(bench, k, 0, 0), 0, 2, Twins.NO_INDEX);
        twins.range("arc(0, input, 0)", (bench, k) -> Twins.arc(bench, 0, k, 0), 0, 1, Twins.NO_INDEX);
        twins.range("arc(2, 1, what)", (bench, k) -> Twins.arc(bench, 2, 1, k), 0, 1, Twins.NO_ELEMENT);
        twins.range("arc(state, 0, 2)", (bench, k) -> Twins.arc(bench, k, 0, 2), 0, 2, Twins.NO_INDEX);
        twins.range("arc(0, input, -1)", (bench, k) -> Twins.arc(bench, 0, k, -1), 0, 1, Twins.NO_INDEX);
        twins.range("built(place, 1, 1)", (bench, k) -> bench.built(k, 1, 1), 0, 3, -1);
        twins.range("built(3, input, 0)", (bench, k) -> bench.built(3, k, 0), 0, 1, -1);
        twins.range("built(3, 1, what)", (bench, k) -> bench.built(3, 1, k), 0, 1, -1);
    }

    // Promises 8 to 10, 31
    private void words() {
        twins.range("answer(state, x)", (bench, k) -> bench.answer(k, X), 0, 2, -1);
        twins.range("leads(state, x)", (bench, k) -> bench.leads(k, X), 0, 2, -1);
        twins.range("answer(2, word)", (bench, k) -> bench.answer(2, k), 0, 2, -1);
        twins.range("leads(2, word)", (bench, k) -> bench.leads(2, k), 0, 2, -1);
        twins.range("answerBuilt(word)", (bench, k) -> bench.answerBuilt(k), 0, 2, -1);
        twins.range("ask(word)", (bench, k) -> bench.ask(k), 0, 2, -1);
        // A digit 0 within, one beyond the INPUTS at each place, one of 16 INPUTS.
        int[] none = {3, 4, 7, 8, 12, 13, 16, 17, 20, 23, 0x40000000, 0x55555555, 0x3fffffff, 0x15555553, 0x15555554,
            0x35555555, -0x55555555};
        for (int word : none) {
            twins.refused("answer(0, " + word + ")", bench -> bench.answer(0, word), -1);
            twins.refused("leads(0, " + word + ")", bench -> bench.leads(0, word), -1);
            twins.refused("answerBuilt(" + word + ")", bench -> bench.answerBuilt(word), -1);
            twins.refused("ask(" + word + ")", bench -> bench.ask(word), -1);
        }
        // The first and the last WORD of each number of INPUTS, up to 15.
        int first = 0;
        int last = 0;
        for (int inputs = 0; inputs <= 15; inputs++) {
            kit.is("the first of " + inputs, Twins.used().leads(0, first), Math.min(inputs, 2));
            kit.is("the last of " + inputs, Twins.used().leads(0, last), 0);
            kit.is("the first of " + inputs + " answered", Twins.used().answer(2, first), ones(inputs));
            kit.is("the last of " + inputs + " answered", Twins.used().answer(2, last), 0);
            kit.is("the first of " + inputs + " asked", Twins.used().ask(first), Twins.used().answerBuilt(first));
            kit.is("the last of " + inputs + " asked", Twins.used().ask(last), Twins.used().answerBuilt(last));
            first = first * 4 + 1;
            last = last * 4 + 2;
        }
    }

    private static long ones(int digits) {
        long number = 0;
        for (int k = 0; k < digits; k++) {
            number = number * 10 + 1;
        }
        return number;
    }

    // Promises 11 to 13, 16
    private void states() {
        twins.range("access(state)", (bench, k) -> bench.access(k), 0, 2, -1);
        twins.range("kind(state)", (bench, k) -> bench.kind(k), 0, 2, -1);
        twins.range("separator(one, 1)", (bench, k) -> bench.separator(k, 1), 0, 2, -1);
        twins.range("separator(1, other)", (bench, k) -> bench.separator(1, k), 0, 2, -1);
        twins.refused("separator of none and itself", bench -> bench.separator(3, 3), -1);
        twins.refused("separator(-1, -1)", bench -> bench.separator(-1, -1), -1);
        twins.range("sign(state)", (bench, k) -> bench.sign(k), 0, 2, -1);
        twins.range("mark(state, 0)", (bench, k) -> bench.mark(k, 0), 0, 2, -1);
    }

    // Promises 14, 15, 18, 19, 34
    private void rows() {
        twins.row("splitter(k)", (bench, k) -> bench.splitter(k), 1);
        twins.row("mark(0, k)", (bench, k) -> bench.mark(0, k), 2);
        twins.row("mark(2, k)", (bench, k) -> bench.mark(2, k), 1);
        twins.row("test(0, k)", (bench, k) -> bench.test(0, k), Twins.used().suite(0, 0));
        twins.row("test(1, k)", (bench, k) -> bench.test(1, k), Twins.used().suite(1, 0));
        twins.row("way(0, k)", (bench, k) -> bench.way(0, k), Twins.used().suite(2, 1));
        twins.row("way(1, k)", (bench, k) -> bench.way(1, k), Twins.used().suite(3, 1));
        SuiteBench used = Twins.used();
        int suspects = used.suspects(0) + used.suspects(1);
        kit.is("some are suspected", suspects > 1, true);
        twins.row("suspect(k)", (bench, k) -> bench.suspect(k), suspects);
    }

    // Promises 17 to 20, 23
    private void suites() {
        twins.range("suite(suite, 0)", (bench, k) -> bench.suite(k, 0), 0, 3, -1);
        twins.range("test(suite, 0)", (bench, k) -> bench.test(k, 0), 0, 1, -1);
        twins.range("way(what, 0)", (bench, k) -> bench.way(k, 0), 0, 1, -1);
        twins.range("verdict(suite, 0)", (bench, k) -> bench.verdict(k, 0), 0, 3, -1);
        twins.range("enough(suite)", (bench, k) -> bench.enough(k), 0, 1, -1);
        twins.range("covered(suite)", (bench, k) -> bench.covered(k), 0, 1, -1);
        twins.range("mutants(suite, 0)", (bench, k) -> bench.mutants(k, 0), 0, 3, -1);
        for (int suite = 0; suite < 4; suite++) {
            int given = suite;
            twins.range("suite(" + suite + ", what)", (bench, k) -> bench.suite(given, k), 0, 2, -1);
            twins.range("verdict(" + suite + ", what)", (bench, k) -> bench.verdict(given, k), 0, 3, -1);
            twins.range("mutants(" + suite + ", what)", (bench, k) -> bench.mutants(given, k), 0, 4, -1);
        }
    }

    // Promises 25 to 29
    private void mutants() {
        int many = Twins.used().count(8);
        for (int what = 0; what < 4; what++) {
            int given = what;
            twins.range("mutant(k, " + what + ")", (bench, k) -> bench.mutant(k, given), 0, many - 1, -1);
        }
        twins.range("mutant(0, what)", (bench, k) -> bench.mutant(0, k), 0, 3, -1);
        twins.range("mutant(" + (many - 1) + ", what)", (bench, k) -> bench.mutant(many - 1, k), 0, 3, -1);
        twins.range("parts(one, 0)", (bench, k) -> bench.parts(k, 0), 0, many - 1, -1);
        twins.range("parts(0, other)", (bench, k) -> bench.parts(0, k), 0, many - 1, -1);
        twins.refused("parts of none and itself", bench -> bench.parts(many, many), -1);
        twins.refused("parts(-1, -1)", bench -> bench.parts(-1, -1), -1);
        for (int what = 0; what < 3; what++) {
            int given = what;
            twins.range("small(k, 0, " + what + ")", (bench, k) -> bench.small(k, 0, given), 1, 2, -1);
            twins.range("small(2, suite, " + what + ")", (bench, k) -> bench.small(2, k, given), 0, 1, -1);
        }
        twins.range("small(1, 1, what)", (bench, k) -> bench.small(1, 1, k), 0, 2, -1);
        twins.range("tree(states, 0)", (bench, k) -> bench.tree(k, 0), 5, 7, -1);
        twins.range("tree(3, what)", (bench, k) -> bench.tree(3, k), 0, 1, -1);
        for (int states : new int[] {0, 1, 2, 4, 8, 9, 11, 15, 16, 64, -8, -1, 0x40000003}) {
            twins.refused("tree(" + states + ", 0)", bench -> bench.tree(states, 0), -1);
            twins.refused("tree(" + states + ", 1)", bench -> bench.tree(states, 1), -1);
        }
        twins.range("word(what)", (bench, k) -> bench.word(k), 0, 2, -1);
    }

    // Promises 33, 36
    private void suspicion() {
        twins.range("suspects(what)", (bench, k) -> bench.suspects(k), 0, 1, -1);
        twins.range("chance(seed, 15)", (bench, k) -> bench.chance(k, 15), -1, Integer.MAX_VALUE, -1);
        twins.range("chance(0, n)", (bench, k) -> bench.chance(0, k), 1, 15, -1);
        twins.range("chance(-1, n)", (bench, k) -> bench.chance(-1, k), 1, 15, -1);
        kit.is("chance(0, 15)", Twins.used().chance(0, 15) >= 0, true);
    }

    // Promises 37 to 39
    private void deeds() {
        twins.range("twist(place, 0, 0, 0)", (bench, k) -> Twins.bit(bench.twist(k, 0, 0, 0)), 0, 3, 0);
        twins.range("twist(3, input, 3, 9)", (bench, k) -> Twins.bit(bench.twist(3, k, 3, 9)), 0, 1, 0);
        twins.range("twist(0, 1, to, 0)", (bench, k) -> Twins.bit(bench.twist(0, 1, k, 0)), 0, 3, 0);
        twins.range("twist(0, 0, 0, output)", (bench, k) -> Twins.bit(bench.twist(0, 0, 0, k)), 0, 9, 0);
        twins.range("mend(place, 0)", (bench, k) -> Twins.bit(bench.mend(k, 0)), 0, 3, 0);
        twins.range("mend(0, input)", (bench, k) -> Twins.bit(bench.mend(0, k)), 0, 1, 0);
        int many = Twins.used().count(8);
        twins.range("mutate(k)", (bench, k) -> Twins.bit(bench.mutate(k)), 0, many - 1, 0);
    }

    // Promise 43
    private void counts() {
        twins.range("count(what)", (bench, k) -> bench.count(k), 0, 12, -1);
    }
}
