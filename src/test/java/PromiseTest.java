import java.util.NoSuchElementException;

/** Promise by promise, with answers worked out by hand: ordinary ones, the edges that the document names, wrong inputs. */
public final class PromiseTest {
    /** a and b by turns; only b's OUTPUT is 1. */
    private static final String TWO = "state a;state b;input x;arc a x b 0;arc b x a 1;";
    /** c is a sink by both INPUTS (that by y isn't told), its OUTPUT by x 1. */
    private static final String THREE = "state a;state b;state c;input x;input y;"
        + "arc a x b 0;arc a y a 0;arc b x c 0;arc b y a 0;arc c x c 1;";
    /** Only a is REACHED; b and c are told by their OUTPUTS. */
    private static final String FAR = "state a;state b;state c;input x;arc b x b 1;arc c x a 2;";
    /** Both are ALIKE. */
    private static final String LIKE = "state a;state b;input x;arc a x b 0;arc b x a 0;";
    private static final String BARE = "state a;state b;";
    /** One STATE, the BUILT one goes on to m, whose OUTPUT is wrong. */
    private static final String LONE = "state a;input x;more m;extra 1;twist a x m 0;twist m x m 1;seed 5;";

    private final Kit kit = new Kit("PromiseTest");

    public static void main(String[] args) {
        PromiseTest test = new PromiseTest();
        test.tape();
        test.names();
        test.arcs();
        test.answers();
        test.states();
        test.splittersAndMarks();
        test.signs();
        test.suites();
        test.walks();
        test.verdicts();
        test.mutants();
        test.smallOnes();
        test.trees();
        test.wordsForAll();
        test.covers();
        test.logs();
        test.suspicion();
        test.byChance();
        test.deeds();
        test.undoing();
        test.images();
        test.counts();
        test.kit.end();
    }

    private void is(String call, long got, long due) {
        kit.is(call, got, due);
    }

    private void is(String call, boolean got, boolean due) {
        kit.is(call, got, due);
    }

    // Promises 1 to 4
    private void tape() {
        SuiteBench bench = new SuiteBench();
        is("new: count(0)", bench.count(0), 0);
        is("new: text(0)", bench.text(0), 0);
        is("new: text(1)", bench.text(1), -2);
        is("new: fault(0)", bench.fault(0), 0);
        is("new: fault(1)", bench.fault(1), -1);
        is("fault(2)", bench.fault(2), -1);
        is("fault(-1)", bench.fault(-1), -1);
        for (int k = 1; k <= 35; k++) {
            is("feed", bench.feed(0x20202020, 0x20202020, 0x20202020, 0x20202020, 0x20202020), 20 * k);
        }
        is("feed of too much", bench.feed(0x73746174, 0x6520613b, 0x20202020, 0x20202020, 0x20202020), -1);
        is("text(701)", bench.text(701), -2);
        is("text(-1)", bench.text(-1), -2);
        is("text(700)", bench.text(700), 0);
        is("the TAPE is empty", bench.text(1), -2);
        is("the highest byte first", bench.feed(0x73746174, 0x6520613b, 0xffffffff, 0x80000000, 0), 20);
        is("text(8)", bench.text(8), 1);
        is("count(0)", bench.count(0), 1);
        is("the rest is gone", bench.text(12), -2);
        is("text(0)", bench.text(0), 0);
        is("a TEXT without LINES", bench.count(0), 0);
        Kit.feed(bench, "state a;");
        is("text(9)", bench.text(9), 1);
        Kit.feed(bench, "state a;");
        is("text(7)", bench.text(7), -1);
        is("fault(0)", bench.fault(0), 1);
        is("fault(1)", bench.fault(1), 7);
        is("the TAPE is empty with a FAULT too", bench.text(1), -2);
        is("fault(0) stays", bench.fault(0), 1);
        is("the STATE stays", bench.count(0), 1);
    }

    // Promise 5
    private void names() {
        SuiteBench bench = Kit.bench("state a;input b;state abcdef;input zz;more m;more n;");
        is("named(a)", bench.named(Kit.letters("a")), 0);
        is("named(abcdef)", bench.named(Kit.letters("abcdef")), 1);
        is("named(m)", bench.named(Kit.letters("m")), 2);
        is("named(n)", bench.named(Kit.letters("n")), 3);
        is("named(b)", bench.named(Kit.letters("b")), 100);
        is("named(zz)", bench.named(Kit.letters("zz")), 101);
        is("named(z)", bench.named(Kit.letters("z")), -1);
        is("named(abcde)", bench.named(Kit.letters("abcde")), -1);
        is("named(state)", bench.named(Kit.letters("state")), -1);
        is("named(0)", bench.named(0), -1);
        is("named(1)", bench.named(1), -1);
        is("named: a bit above", bench.named(Kit.letters("a") | 1 << 30), -1);
        is("named: below 0", bench.named(Kit.letters("a") | 1 << 31), -1);
    }

    private int thrown(SuiteBench bench, int state, int input, int what) {
        try {
            bench.arc(state, input, what);
        } catch (IndexOutOfBoundsException e) {
            return 1;
        } catch (NoSuchElementException e) {
            return 2;
        }
        return 0;
    }

    // Promises 6, 7
    private void arcs() {
        SuiteBench bench = Kit.bench(THREE);
        is("arc(1, 0, 0)", bench.arc(1, 0, 0), 2);
        is("arc(2, 0, 1)", bench.arc(2, 0, 1), 1);
        is("arc not told: to itself", bench.arc(2, 1, 0), 2);
        is("arc not told: OUTPUT", bench.arc(2, 1, 1), 0);
        is("arc: no such STATE", thrown(bench, 3, 0, 0), 1);
        is("arc: no such STATE", thrown(bench, -1, 0, 0), 1);
        is("arc: no such INPUT", thrown(bench, 0, 2, 0), 1);
        is("arc: no such INPUT", thrown(bench, 0, -1, 0), 1);
        is("arc: no such what", thrown(bench, 0, 0, 2), 2);
        is("arc: no such what", thrown(bench, 0, 0, -1), 2);
        is("arc: both", thrown(bench, 3, 0, 2), 1);
        SuiteBench lone = Kit.bench(LONE);
        is("arc of a MORE", thrown(lone, 1, 0, 0), 1);
        is("built(0, 0, 0)", lone.built(0, 0, 0), 1);
        is("built(1, 0, 1)", lone.built(1, 0, 1), 1);
        is("the MACHINE isn't twisted", lone.arc(0, 0, 0), 0);
        is("built(2, 0, 0)", lone.built(2, 0, 0), -1);
        is("built(0, 1, 0)", lone.built(0, 1, 0), -1);
        is("built(0, 0, 2)", lone.built(0, 0, 2), -1);
        is("built(-1, 0, 0)", lone.built(-1, 0, 0), -1);
        is("built(0, -1, 0)", lone.built(0, -1, 0), -1);
        is("built(0, 0, -1)", lone.built(0, 0, -1), -1);
        SuiteBench more = Kit.bench("state a;input x;more m;");
        is("MORE to itself", more.built(1, 0, 0), 1);
        is("MORE, OUTPUT 0", more.built(1, 0, 1), 0);
        is("without STATES", thrown(new SuiteBench(), 0, 0, 0), 1);
    }

    // Promises 8 to 10
    private void answers() {
        SuiteBench bench = Kit.bench(THREE);
        is("answer: xxx", bench.answer(0, Kit.word("000")), 1);
        is("answer: the first OUTPUT highest", bench.answer(2, Kit.word("010")), 101);
        is("answer: no INPUTS", bench.answer(0, 0), 0);
        is("answer: no such digit", bench.answer(0, 3), -1);
        is("answer: a digit 0", bench.answer(0, 4), -1);
        is("answer: below 0", bench.answer(0, -1), -1);
        is("answer: no such STATE", bench.answer(3, 1), -1);
        is("answer: no such STATE", bench.answer(-1, 1), -1);
        is("answer: 15 INPUTS", bench.answer(2, Kit.word("000000000000000")), 111111111111111L);
        is("answer: 16 INPUTS", bench.answer(2, 0x55555555), -1);
        is("leads: xy", bench.leads(0, Kit.word("01")), 0);
        is("leads: xx", bench.leads(0, Kit.word("00")), 2);
        is("leads: no INPUTS", bench.leads(1, 0), 1);
        is("leads: no such WORD", bench.leads(0, 3), -1);
        is("leads: no such STATE", bench.leads(3, 0), -1);
        SuiteBench lone = Kit.bench(LONE);
        is("answerBuilt: xxx", lone.answerBuilt(Kit.word("000")), 11);
        is("answerBuilt: no INPUTS", lone.answerBuilt(0), 0);
        is("answerBuilt: no such WORD", lone.answerBuilt(2), -1);
        is("answerBuilt: THE LOG stays", lone.count(9), 0);
        SuiteBench nothing = Kit.bench("input x;");
        is("answerBuilt: no STATES", nothing.answerBuilt(0), -1);
        is("answer: no STATES", nothing.answer(0, 0), -1);
    }

    // Promises 11 to 13
    private void states() {
        SuiteBench bench = Kit.bench(THREE);
        is("access(0)", bench.access(0), 0);
        is("access(2)", bench.access(2), Kit.word("00"));
        is("access(3)", bench.access(3), -1);
        is("access(-1)", bench.access(-1), -1);
        is("separator(0, 1)", bench.separator(0, 1), Kit.word("00"));
        is("separator(1, 0)", bench.separator(1, 0), Kit.word("00"));
        is("separator(1, 2)", bench.separator(1, 2), Kit.word("0"));
        is("separator(1, 1)", bench.separator(1, 1), -2);
        is("separator(0, 3)", bench.separator(0, 3), -1);
        is("separator(-1, 0)", bench.separator(-1, 0), -1);
        SuiteBench far = Kit.bench(FAR);
        is("access of one not REACHED", far.access(1), -2);
        is("separator of ones not REACHED", far.separator(1, 2), Kit.word("0"));
        is("kind(2)", far.kind(2), 2);
        SuiteBench like = Kit.bench(LIKE);
        is("kind(1)", like.kind(1), 0);
        is("kind(0)", like.kind(0), 0);
        is("kind(2)", like.kind(2), -1);
        is("kind(-1)", like.kind(-1), -1);
        is("separator of ALIKE ones", like.separator(0, 1), -2);
        SuiteBench ahead = Kit.bench("state a;state b;state c;input x;arc a x c 1;");
        is("KIND of a REACHED one is one that isn't", ahead.kind(2), 1);
        is("KINDS are of REACHED ones alone", ahead.count(5), 2);
        SuiteBench shortest = Kit.bench("state a;state b;input x;input y;arc a x b 0;arc a y b 0;arc b y a 1;");
        is("ACCESS, the first of two", shortest.access(1), Kit.word("0"));
        is("SEPARATOR: fewer INPUTS go ahead of less", shortest.separator(0, 1), Kit.word("1"));
        SuiteBench chain = Kit.bench("state a;state b;state c;state d;state e;state f;input x;arc a x b 0;arc b x c 0;"
            + "arc c x d 0;arc d x e 0;arc e x f 0;arc f x a 1;");
        is("ACCESS of five INPUTS", chain.access(5), Kit.word("00000"));
        is("SEPARATOR of five INPUTS", chain.separator(0, 1), Kit.word("00000"));
        is("SUITE 0 of the chain", chain.suite(0, 1), 11);
    }

    // Promises 14, 15
    private void splittersAndMarks() {
        SuiteBench bench = Kit.bench(THREE);
        is("splitter(0)", bench.splitter(0), Kit.word("00"));
        is("splitter(1)", bench.splitter(1), -2);
        is("splitter(-1)", bench.splitter(-1), -1);
        is("mark(0, 0)", bench.mark(0, 0), Kit.word("0"));
        is("mark(0, 1)", bench.mark(0, 1), Kit.word("00"));
        is("mark(0, 2)", bench.mark(0, 2), -2);
        is("mark(2, 0): each once", bench.mark(2, 0), Kit.word("0"));
        is("mark(2, 1)", bench.mark(2, 1), -2);
        is("mark(3, 0)", bench.mark(3, 0), -1);
        is("mark(0, -1)", bench.mark(0, -1), -1);
        is("mark(-1, 0)", bench.mark(-1, 0), -1);
        SuiteBench far = Kit.bench(FAR);
        is("no SEPARATORS: the WORD without INPUTS", far.splitter(0), 0);
        is("and no other", far.splitter(1), -2);
        is("MARK of a lone REACHED one", far.mark(0, 0), 0);
        is("MARK of one not REACHED", far.mark(1, 0), Kit.word("0"));
        is("not against ones not REACHED", far.mark(1, 1), -2);
        SuiteBench more = Kit.bench("state a;state b;state c;input x;input y;arc a x b 0;arc a y c 0;arc b y a 1;arc c x a 1;");
        is("SPLITTERS as pairs come: (a, b) by y", more.splitter(0), Kit.word("1"));
        is("SPLITTERS as pairs come: (a, c) by x", more.splitter(1), Kit.word("0"));
        is("SPLITTERS: (b, c) are told apart", more.splitter(2), -2);
        is("MARKS by WORDS: (a, c) by x first", more.mark(0, 0), Kit.word("0"));
        is("MARKS by WORDS", more.mark(0, 1), Kit.word("1"));
        is("no STATES", Kit.bench("input x;").splitter(0), -1);
        is("no INPUTS", Kit.bench(BARE).splitter(0), 0);
    }

    // Promise 16
    private void signs() {
        SuiteBench bench = Kit.bench(THREE);
        is("sign(0)", bench.sign(0), Kit.word("00"));
        is("sign(2)", bench.sign(2), Kit.word("0"));
        is("sign(3)", bench.sign(3), -1);
        is("sign(-1)", bench.sign(-1), -1);
        is("of ALIKE ones", Kit.bench(LIKE).sign(0), -2);
        SuiteBench far = Kit.bench(FAR);
        is("of a lone REACHED one", far.sign(0), 0);
        is("of one not REACHED", far.sign(2), Kit.word("0"));
        is("no STATES", new SuiteBench().sign(0), -1);
        SuiteBench lost = Kit.bench("state a;state b;state c;input x;input y;arc a x b 1;arc a y c 0;arc b x b 1;arc b y c 1;"
            + "arc c x c 0;arc c y c 0;");
        is("told from c by x, from b by y only, but both lead on", lost.sign(0), -2);
        is("sign of b", lost.sign(1), Kit.word("1"));
    }

    // Promises 17, 18
    private void suites() {
        SuiteBench bench = Kit.bench(THREE);
        is("suite(0, 0)", bench.suite(0, 0), 4);
        is("suite(0, 1)", bench.suite(0, 1), 17);
        is("suite(0, 2)", bench.suite(0, 2), 5);
        is("suite(1, 0)", bench.suite(1, 0), 4);
        is("suite(1, 1)", bench.suite(1, 1), 15);
        is("suite(2, 0)", bench.suite(2, 0), 1);
        is("suite(2, 2)", bench.suite(2, 2), 4);
        is("suite(3, 2)", bench.suite(3, 2), 5);
        is("suite(4, 0)", bench.suite(4, 0), -1);
        is("suite(-1, 0)", bench.suite(-1, 0), -1);
        is("suite(0, 3)", bench.suite(0, 3), -1);
        is("suite(0, -1)", bench.suite(0, -1), -1);
        is("test(0, 0)", bench.test(0, 0), Kit.word("100"));
        is("test(0, 3)", bench.test(0, 3), Kit.word("00100"));
        is("test(0, 4)", bench.test(0, 4), -2);
        is("test(1, 1)", bench.test(1, 1), Kit.word("0000"));
        is("test(1, 2)", bench.test(1, 2), Kit.word("0010"));
        is("test(2, 0)", bench.test(2, 0), -1);
        is("test(-1, 0)", bench.test(-1, 0), -1);
        is("test(0, -1)", bench.test(0, -1), -1);
        SuiteBench extra = Kit.bench(TWO + "extra 2;");
        is("extra: x, three more, x", extra.test(0, 0), Kit.word("00000"));
        is("extra: one TEST", extra.suite(0, 0), 1);
        // xy alone splits all four; no other TEST begins with xy, which is behind the HEAD without INPUTS.
        SuiteBench head = Kit.bench("state a;state b;state c;state d;input x;input y;arc a y b 0;arc b x c 0;arc c x d 0;"
            + "arc c y c 1;arc d x d 1;arc d y d 2;");
        String[] tests = {"01", "001", "1101", "10001", "10101", "100001", "100101"};
        for (int k = 0; k < tests.length; k++) {
            is("test(0, " + k + ") behind the first HEAD", head.test(0, k), Kit.word(tests[k]));
        }
        is("no more", head.test(0, tests.length), -2);
        is("INPUTS in sum", head.suite(0, 1), 31);
        SuiteBench bare = Kit.bench(BARE);
        is("no INPUTS: a TEST without INPUTS", bare.suite(0, 0), 1);
        is("no INPUTS: test(0, 0)", bare.test(0, 0), 0);
        is("no INPUTS: suite(1, 2)", bare.suite(1, 2), 0);
        is("no INPUTS: the TOUR is a TEST", bare.suite(2, 0), 1);
        is("no INPUTS: the CHECK is a TEST", bare.suite(3, 0), 1);
        is("no INPUTS: it has none", bare.suite(3, 1), 0);
        SuiteBench nothing = Kit.bench("input x;");
        for (int suite = 0; suite < 4; suite++) {
            is("no STATES: no TESTS", nothing.suite(suite, 0), 0);
        }
    }

    // Promise 19
    private void walks() {
        SuiteBench bench = Kit.bench(THREE);
        int[] tour = {0, 0, 0, 1, -2};
        // x comes to b, whose SIGN xx takes c's ARC by x; then y by c, where the SIGN x is gone again.
        int[] check = {0, 0, 0, 1, 0, -2};
        for (int k = 0; k < tour.length; k++) {
            is("way(0, " + k + ")", bench.way(0, k), tour[k]);
        }
        for (int k = 0; k < check.length; k++) {
            is("way(1, " + k + ")", bench.way(1, k), check[k]);
        }
        is("way(2, 0)", bench.way(2, 0), -1);
        is("way(-1, 0)", bench.way(-1, 0), -1);
        is("way(0, -1)", bench.way(0, -1), -1);
        is("no INPUTS", Kit.bench(BARE).way(0, 0), -2);
        is("no STATES", new SuiteBench().way(1, 0), -2);
        SuiteBench back = Kit.bench("state a;state b;input x;input y;arc a x b 0;arc b x b 1;arc b y a 0;");
        // x to b, x by b, y to a, y by a: all four.
        int[] all = {0, 0, 1, 1, -2};
        for (int k = 0; k < all.length; k++) {
            is("way(0, " + k + ") back", back.way(0, k), all[k]);
        }
    }

    // Promises 20 to 23
    private void verdicts() {
        SuiteBench bench = Kit.bench(THREE);
        is("verdict(0, 0)", bench.verdict(0, 0), 0);
        for (int what = 1; what < 4; what++) {
            is("verdict(1, " + what + ")", bench.verdict(1, what), -2);
        }
        is("isEqual()", bench.isEqual(), true);
        is("witness()", bench.witness(), -2);
        is("enough(0)", bench.enough(0), -2);
        bench.twist(2, 1, 2, 7);
        is("verdict(0, 0)", bench.verdict(0, 0), 1);
        is("verdict(0, 1)", bench.verdict(0, 1), 3);
        is("verdict(0, 2)", bench.verdict(0, 2), 2);
        is("verdict(0, 3)", bench.verdict(0, 3), 7);
        is("verdict(1, 1)", bench.verdict(1, 1), 2);
        is("verdict(2, 0)", bench.verdict(2, 0), 1);
        is("verdict(2, 1)", bench.verdict(2, 1), 0);
        is("verdict(2, 2)", bench.verdict(2, 2), 3);
        is("verdict(3, 3)", bench.verdict(3, 3), 7);
        is("verdict(4, 0)", bench.verdict(4, 0), -1);
        is("verdict(-1, 0)", bench.verdict(-1, 0), -1);
        is("verdict(0, 4)", bench.verdict(0, 4), -1);
        is("verdict(0, -1)", bench.verdict(0, -1), -1);
        is("isEqual()", bench.isEqual(), false);
        is("witness()", bench.witness(), Kit.word("001"));
        is("enough(1)", bench.enough(1), 0);
        is("enough(2)", bench.enough(2), -1);
        is("enough(-1)", bench.enough(-1), -1);
        SuiteBench lone = Kit.bench(LONE);
        is("one STATE more: SUITE 0 for 1", lone.enough(0), 1);
        is("witness()", lone.witness(), Kit.word("00"));
        SuiteBench deep = Kit.bench("state a;input x;more m;more n;twist a x m 0;twist m x n 0;twist n x n 1;extra 0;");
        is("two STATES more: SUITE 1 for 2", deep.enough(1), 2);
        is("and not for extra", deep.verdict(1, 0), 0);
        is("witness()", deep.witness(), Kit.word("000"));
        SuiteBench hidden = Kit.bench("state a;input x;more m;twist m x m 5;");
        is("a PLACE to which no WORD leads", hidden.isEqual(), true);
        is("enough(0)", hidden.enough(0), -2);
        SuiteBench nothing = new SuiteBench();
        is("no STATES: isEqual()", nothing.isEqual(), true);
        is("no STATES: witness()", nothing.witness(), -2);
        is("no STATES: enough(1)", nothing.enough(1), -2);
        is("no INPUTS: isEqual()", Kit.bench(BARE).isEqual(), true);
    }

    // Promises 24 to 26
    private void mutants() {
        SuiteBench far = Kit.bench(FAR);
        int[][] due = {{0, 0, 1, 0}, {0, 0, 2, 0}, {0, 0, 0, 1}, {0, 0, 0, 2}};
        for (int k = 0; k < due.length; k++) {
            for (int what = 0; what < 4; what++) {
                is("mutant(" + k + ", " + what + ")", far.mutant(k, what), due[k][what]);
            }
        }
        is("mutant(4, 0)", far.mutant(4, 0), -1);
        is("mutant(-1, 0)", far.mutant(-1, 0), -1);
        is("mutant(0, 4)", far.mutant(0, 4), -1);
        is("mutant(0, -1)", far.mutant(0, -1), -1);
        is("mutants(0, 0)", far.mutants(0, 0), 4);
        is("mutants(0, 1)", far.mutants(0, 1), 0);
        is("mutants(0, 2)", far.mutants(0, 2), 2);
        is("mutants(0, 3)", far.mutants(0, 3), 2);
        is("mutants(0, 4)", far.mutants(0, 4), 0);
        is("mutants(3, 3)", far.mutants(3, 3), 2);
        is("mutants(4, 0)", far.mutants(4, 0), -1);
        is("mutants(-1, 0)", far.mutants(-1, 0), -1);
        is("mutants(0, 5)", far.mutants(0, 5), -1);
        is("mutants(0, -1)", far.mutants(0, -1), -1);
        is("parts(0, 1)", far.parts(0, 1), Kit.word("00"));
        is("parts(2, 3)", far.parts(2, 3), Kit.word("0"));
        is("parts(3, 3)", far.parts(3, 3), -2);
        is("parts(0, 4)", far.parts(0, 4), -1);
        is("parts(-1, 0)", far.parts(-1, 0), -1);
        SuiteBench like = Kit.bench(LIKE);
        is("EQUAL ones", like.mutants(0, 1), 2);
        is("those that FAIL", like.mutants(1, 2), 2);
        is("neither", like.mutants(1, 3), 0);
        is("the first of none", like.mutants(1, 4), -2);
        is("parts of two EQUAL ones", like.parts(0, 2), -2);
        SuiteBench two = Kit.bench(TWO);
        is("the TOUR doesn't notice b's ARC", two.mutants(2, 4), 2);
        is("SUITE 0 does", two.mutants(0, 3), 0);
        SuiteBench nothing = new SuiteBench();
        is("no STATES: mutants(0, 3)", nothing.mutants(0, 3), 0);
        is("no STATES: mutants(0, 4)", nothing.mutants(0, 4), -2);
        is("no INPUTS: mutants(0, 0)", Kit.bench(BARE).mutants(0, 0), 0);
        StringBuilder most = new StringBuilder("state a;state b;state c;state d;state e;state f;input x;input y;input z;");
        for (int s = 0; s < 6; s++) {
            most.append("arc ").append((char) ('a' + s)).append(" x ").append((char) ('a' + (s + 1) % 6)).append(" 9;");
        }
        SuiteBench full = Kit.bench(most.toString());
        is("the most MUTANTS", full.mutants(0, 0), 252);
        is("the last one's STATE", full.mutant(251, 0), 5);
        is("the last one's INPUT", full.mutant(251, 1), 2);
        is("the last one's OUTPUT", full.mutant(251, 3), 9);
    }

    // Promise 27
    private void smallOnes() {
        SuiteBench two = Kit.bench(TWO);
        is("small(1, 0, 0)", two.small(1, 0, 0), 2);
        is("small(2, 1, 0)", two.small(2, 1, 0), 16);
        is("small(1, 0, 1)", two.small(1, 0, 1), 0);
        is("small(2, 1, 1)", two.small(2, 1, 1), 1);
        is("small(2, 0, 2)", two.small(2, 0, 2), 1);
        is("small(0, 0, 0)", two.small(0, 0, 0), -1);
        is("small(3, 0, 0)", two.small(3, 0, 0), -1);
        is("small(1, 2, 0)", two.small(1, 2, 0), -1);
        is("small(1, -1, 0)", two.small(1, -1, 0), -1);
        is("small(1, 0, 3)", two.small(1, 0, 3), -1);
        is("small(1, 0, -1)", two.small(1, 0, -1), -1);
        is("no STATES", new SuiteBench().small(1, 0, 0), -1);
        SuiteBench bare = Kit.bench(BARE);
        is("no INPUTS: there is one", bare.small(2, 0, 0), 1);
        is("no INPUTS: it FAILS none", bare.small(2, 0, 1), 1);
        is("no INPUTS: it is EQUAL", bare.small(2, 0, 2), 1);
        SuiteBench wide = Kit.bench("state a;input x;input y;input z;");
        is("small(1, 0, 0) of three INPUTS", wide.small(1, 0, 0), 8);
        is("small(2, 0, 0) of three INPUTS", wide.small(2, 0, 0), 4096);
        // From 0 back to 0 always: what the other one does is free. Else both must have OUTPUT 0.
        is("small(2, 0, 2) of three INPUTS", wide.small(2, 0, 2), 64 + 7 * 8);
    }

    // Promise 28
    private void trees() {
        SuiteBench bench = Kit.bench(THREE);
        is("tree(7, 0)", bench.tree(7, 0), 2);
        is("tree(7, 1)", bench.tree(7, 1), 0);
        is("tree(6, 0)", bench.tree(6, 0), 1);
        is("tree(8, 0)", bench.tree(8, 0), -1);
        is("tree(9, 0)", bench.tree(9, 0), -1);
        is("tree(2, 0)", bench.tree(2, 0), -1);
        is("tree(0, 0)", bench.tree(0, 0), -1);
        is("tree(-1, 0)", bench.tree(-1, 0), -1);
        is("tree(7, 2)", bench.tree(7, 2), -1);
        is("tree(7, -1)", bench.tree(7, -1), -1);
        SuiteBench like = Kit.bench(LIKE);
        is("of ALIKE ones", like.tree(3, 0), -2);
        is("of ALIKE ones", like.tree(3, 1), -2);
        is("no INPUTS", Kit.bench(BARE).tree(3, 0), -2);
        is("of ones not REACHED", Kit.bench(FAR).tree(6, 0), 1);
        // By x a and b fall together; y tells them apart at once.
        SuiteBench second = Kit.bench("state a;state b;input x;input y;arc a x a 0;arc b x a 0;arc b y b 1;");
        is("the first INPUT by which that can be", second.tree(3, 1), 1);
        is("how many", second.tree(3, 0), 1);
        // By what was answered: x tells a from b and c; then c, d stand apart by x, others by y.
        SuiteBench adaptive = Kit.bench("state a;state b;state c;state d;input x;input y;"
            + "arc a x a 0;arc b x b 0;arc c x c 1;arc d x d 1;arc b y a 1;arc d y c 1;");
        is("x, then y", adaptive.tree(15, 0), 2);
        is("x first", adaptive.tree(15, 1), 0);
    }

    // Promise 29
    private void wordsForAll() {
        SuiteBench bench = Kit.bench(THREE);
        is("PRESET", bench.word(0), Kit.word("00"));
        is("HOMING", bench.word(1), Kit.word("00"));
        is("GATHER", bench.word(2), Kit.word("00"));
        is("word(3)", bench.word(3), -1);
        is("word(-1)", bench.word(-1), -1);
        is("no STATES", new SuiteBench().word(0), -1);
        SuiteBench homing = Kit.bench("state a;state b;input x;input y;arc a x b 0;arc b x a 0;arc b y a 0;");
        is("HOMING by ends alone", homing.word(1), Kit.word("1"));
        is("but no PRESET", homing.word(0), -2);
        SuiteBench like = Kit.bench(LIKE);
        for (int what = 0; what < 3; what++) {
            is("of ALIKE ones, word(" + what + ")", like.word(what), -2);
            is("of one REACHED, word(" + what + ")", Kit.bench(FAR).word(what), 0);
            is("no INPUTS, word(" + what + ")", Kit.bench(BARE).word(what), 0);
        }
        // Nine INPUTS would gather all, eight don't.
        SuiteBench cerny = Kit.bench("state a;state b;state c;state d;input x;input y;"
            + "arc a x b 0;arc b x c 0;arc c x d 0;arc d x a 0;arc d y a 0;");
        is("GATHER beyond 8", cerny.word(2), -2);
    }

    // Promise 30
    private void covers() {
        is("covered(0)", Kit.bench(TWO).covered(0), 1);
        is("covered(1)", Kit.bench(FAR).covered(1), 1);
        is("covered(2)", Kit.bench(FAR).covered(2), -1);
        is("covered(-1)", Kit.bench(FAR).covered(-1), -1);
        is("no STATES", new SuiteBench().covered(0), 0);
        is("no INPUTS", Kit.bench(BARE).covered(1), 0);
        // x and y by themselves: each TEST notices its own.
        is("two are taken", Kit.bench("state a;input x;input y;").covered(0), 2);
    }

    // Promises 31, 32
    private void logs() {
        SuiteBench bench = Kit.bench(TWO);
        is("ask(5)", bench.ask(5), 1);
        is("ask(2)", bench.ask(2), -1);
        is("ask(-1)", bench.ask(-1), -1);
        is("count(9)", bench.count(9), 1);
        bench.twist(0, 0, 1, 7);
        is("the BUILT one is asked", bench.ask(5), 71);
        for (int k = 2; k < 20; k++) {
            is("ask(0)", bench.ask(0), 0);
        }
        is("THE LOG has 20", bench.ask(5), -3);
        is("no such WORD goes first", bench.ask(2), -1);
        is("forget()", bench.forget(), 20);
        is("forget()", bench.forget(), 0);
        is("ask(1)", bench.ask(1), 7);
        is("no STATES", Kit.bench("input x;").ask(0), -1);
    }

    // Promises 33 to 35
    private void suspicion() {
        SuiteBench bench = Kit.bench(FAR);
        is("suspects(0)", bench.suspects(0), 4);
        is("suspects(1)", bench.suspects(1), 1);
        is("suspects(2)", bench.suspects(2), -1);
        is("suspects(-1)", bench.suspects(-1), -1);
        is("suspect(3)", bench.suspect(3), 3);
        is("suspect(4)", bench.suspect(4), 1000);
        is("suspect(5)", bench.suspect(5), -2);
        is("suspect(-1)", bench.suspect(-1), -1);
        is("next()", bench.next(), Kit.word("0"));
        bench.ask(1);
        is("by an OUTPUT 0: suspects(0)", bench.suspects(0), 2);
        is("suspect(1)", bench.suspect(1), 1);
        is("suspect(2)", bench.suspect(2), 1000);
        is("next()", bench.next(), Kit.word("0"));
        bench.twist(0, 0, 0, 2);
        bench.ask(1);
        is("by both nobody", bench.suspects(0), 0);
        is("nor the MACHINE", bench.suspects(1), 0);
        is("next()", bench.next(), -2);
        bench.forget();
        bench.ask(1);
        is("by an OUTPUT 2: suspect(0)", bench.suspect(0), 3);
        is("suspects(1)", bench.suspects(1), 0);
        is("one is too few", bench.next(), -2);
        SuiteBench nothing = new SuiteBench();
        is("no STATES: suspects(1)", nothing.suspects(1), 0);
        is("no STATES: suspect(0)", nothing.suspect(0), -2);
        is("no STATES: next()", nothing.next(), -2);
        SuiteBench bare = Kit.bench(BARE);
        is("no INPUTS: suspects(1)", bare.suspects(1), 1);
        is("no INPUTS: suspect(0)", bare.suspect(0), 1000);
        is("no INPUTS: next()", bare.next(), -2);
        SuiteBench wide = Kit.bench("state a;input x;input y;");
        is("alike good ones: the first", wide.next(), Kit.word("0"));
    }

    // Promise 36
    private void byChance() {
        SuiteBench bench = Kit.bench("state a;input x;input y;input z;seed 5;");
        bench.twist(0, 1, 0, 1);
        long[] seeds = {0, 1, 5, 99999, 2147483647L};
        for (long seed : seeds) {
            for (int n = 1; n <= 15; n++) {
                is("chance(" + seed + ", " + n + ")", bench.chance((int) seed, n), withSecondInput(seed, n));
            }
        }
        is("chance(-1, 3)", bench.chance(-1, 3), withSecondInput(5, 3));
        is("chance(-2, 3)", bench.chance(-2, 3), -1);
        Kit.text(bench, "state a;input x;input y;input z;twist a y a 1;");
        is("no seed is told: 0", bench.chance(-1, 1), withSecondInput(0, 1));
        is("chance(0, 0)", bench.chance(0, 0), -1);
        is("chance(0, 16)", bench.chance(0, 16), -1);
        is("no STATES", Kit.bench("input x;").chance(0, 1), -1);
        is("no INPUTS", Kit.bench(BARE).chance(0, 1), -1);
    }

    private static int withSecondInput(long seed, int n) {
        int words = 0;
        long last = seed;
        for (int w = 0; w < 10; w++) {
            boolean drawn = false;
            for (int k = 0; k < n; k++) {
                last = (last * 1103515245L + 12345L) & 0x7fffffffL;
                drawn |= (last >> 16) % 3 == 1;
            }
            words += drawn ? 1 : 0;
        }
        return words;
    }

    // Promises 37 to 39
    private void deeds() {
        SuiteBench bench = Kit.bench(TWO + "more m;");
        is("twist", bench.twist(0, 0, 2, 9), true);
        is("built(0, 0, 0)", bench.built(0, 0, 0), 2);
        is("built(0, 0, 1)", bench.built(0, 0, 1), 9);
        is("the MACHINE stays", bench.arc(0, 0, 0), 1);
        is("twist of a MORE", bench.twist(2, 0, 0, 1), true);
        is("twist: no such PLACE", bench.twist(3, 0, 0, 0), false);
        is("twist: no such PLACE", bench.twist(-1, 0, 0, 0), false);
        is("twist: no such INPUT", bench.twist(0, 1, 0, 0), false);
        is("twist: no such INPUT", bench.twist(0, -1, 0, 0), false);
        is("twist: no such next", bench.twist(0, 0, 3, 0), false);
        is("twist: no such next", bench.twist(0, 0, -1, 0), false);
        is("twist: no such OUTPUT", bench.twist(0, 0, 0, 10), false);
        is("twist: no such OUTPUT", bench.twist(0, 0, 0, -1), false);
        is("what isn't done can't be undone", bench.count(10), 2);
        is("mend of a MORE", bench.mend(2, 0), true);
        is("it leads to itself", bench.built(2, 0, 0), 2);
        is("OUTPUT 0", bench.built(2, 0, 1), 0);
        is("mend", bench.mend(0, 0), true);
        is("as the MACHINE", bench.built(0, 0, 0), 1);
        is("mend: no such PLACE", bench.mend(3, 0), false);
        is("mend: no such PLACE", bench.mend(-1, 0), false);
        is("mend: no such INPUT", bench.mend(0, 1), false);
        is("mend: no such INPUT", bench.mend(0, -1), false);
        bench.twist(2, 0, 0, 5);
        bench.twist(1, 0, 2, 5);
        is("mutate", bench.mutate(1), true);
        is("its ARC", bench.built(0, 0, 1), 1);
        is("others as the MACHINE's", bench.built(1, 0, 0), 0);
        is("MORE to themselves", bench.built(2, 0, 0), 2);
        is("MORE with OUTPUT 0", bench.built(2, 0, 1), 0);
        is("one ARC isn't the MACHINE's", bench.count(11), 1);
        is("mutate: no such one", bench.mutate(bench.count(8)), false);
        is("mutate: no such one", bench.mutate(-1), false);
        is("count(10)", bench.count(10), 7);
    }

    // Promise 40
    private void undoing() {
        SuiteBench bench = Kit.bench("state a;input x;");
        is("undo()", bench.undo(), -1);
        for (int k = 0; k < 25; k++) {
            bench.twist(0, 0, 0, k % 10);
        }
        is("20 at most", bench.count(10), 20);
        bench.ask(1);
        for (int k = 23; k >= 4; k--) {
            is("undo()", bench.undo(), k - 4);
            is("the BUILT one is as it was", bench.built(0, 0, 1), k % 10);
        }
        is("undo()", bench.undo(), -1);
        is("THE LOG stays", bench.count(9), 1);
        bench.twist(0, 0, 0, 4);
        is("twisting without change can be undone", bench.undo(), 0);
        bench.mend(0, 0);
        bench.mutate(0);
        is("mutating is undone", bench.undo(), 1);
        is("built(0, 0, 1)", bench.built(0, 0, 1), 0);
        is("mending is undone", bench.undo(), 0);
        is("built(0, 0, 1)", bench.built(0, 0, 1), 4);
    }

    // Promises 41, 42
    private void images() {
        SuiteBench bench = Kit.bench(TWO);
        is("back() without an IMAGE", bench.back(), -1);
        bench.ask(1);
        bench.twist(0, 0, 0, 3);
        is("keep()", bench.keep(), 1);
        is("what can be undone stays", bench.count(10), 1);
        bench.ask(1);
        bench.ask(1);
        bench.twist(0, 0, 0, 4);
        is("back()", bench.back(), 1);
        is("the BUILT one as in the IMAGE", bench.built(0, 0, 1), 3);
        is("nothing to undo", bench.undo(), -1);
        is("THE LOG as in the IMAGE", bench.suspects(1), 1);
        bench.forget();
        is("the IMAGE stays", bench.back(), 1);
        bench.twist(0, 0, 0, 5);
        bench.ask(1);
        is("keep() in place of one ahead", bench.keep(), 2);
        bench.mend(0, 0);
        is("back()", bench.back(), 2);
        is("built(0, 0, 1)", bench.built(0, 0, 1), 5);
        Kit.text(bench, "state a;state a;");
        is("with a FAULT the IMAGE stays", bench.back(), 2);
        Kit.text(bench, TWO);
        is("a TEXT: no IMAGE", bench.back(), -1);
    }

    // Promise 43
    private void counts() {
        SuiteBench bench = Kit.bench(FAR + "more m;more n;extra 2;twist a x m 0;twist n x a 0;");
        int[] due = {3, 1, 5, 2, 1, 1, 2, 1, 4, 0, 0, 2, 2, -1};
        for (int what = 0; what < due.length; what++) {
            is("count(" + what + ")", bench.count(what), due[what]);
        }
        is("count(-1)", bench.count(-1), -1);
        is("count(100)", bench.count(100), -1);
        is("KINDS", Kit.bench(THREE).count(5), 3);
        is("TOP is 1 at least", Kit.bench(LIKE).count(6), 1);
        is("TOP of one not REACHED", Kit.bench(FAR).count(6), 2);
        is("SPLITTERS without STATES", new SuiteBench().count(7), 0);
        is("PLACES without INPUTS", Kit.bench(BARE).count(12), 1);
        is("PLACES without STATES", Kit.bench("input x;").count(12), 0);
    }
}
