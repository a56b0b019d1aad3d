/**
 * The greatest benches that the document allows (6 STATES, 3 INPUTS, 2 MORE, extra 2, 252 MUTANTS, OUTPUT 9), and
 * those just below: what fits in must all be there.
 */
public final class MostTest {
    private static final String STILL = "abcdef-000000";
    private static final String RING = "bcdefa-000000";

    private final Kit kit = new Kit("MostTest");

    public static void main(String[] args) {
        MostTest test = new MostTest();
        test.heads();
        test.lastHead();
        test.notReached();
        test.signs();
        test.walks();
        test.threePairs();
        test.firstUnlike();
        test.covered();
        test.next();
        test.chance();
        test.namesToldAlready();
        test.statesOfMore();
        test.kit.end();
    }

    private void is(String call, long got, long due) {
        kit.is(call, got, due);
    }

    // "HEADS for n: WORDS made of the ACCESS of a REACHED STATE and 0 .. (n and 1) INPUTS behind it"
    private void heads() {
        String[] rows = {"bcdefa-000000", "abcdef-000000", "abcdef-000000"};
        for (int states = 1; states <= 6; states++) {
            for (int inputs = 1; inputs <= 3; inputs++) {
                for (int extra = 0; extra < 3; extra++) {
                    // All are ALIKE: TESTS are HEADS with which no other one begins. Of the ways from one STATE to the
                    // next, states - 1 in a row, all but one of the INPUTS of each lead off.
                    int leaves = states * (inputs - 1) + 1;
                    int due = leaves;
                    for (int n = 0; n < extra; n++) {
                        due *= inputs;
                    }
                    SuiteBench bench = ring(states, inputs, extra, rows);
                    is("TESTS of " + states + " STATES, " + inputs + " INPUTS, extra " + extra, bench.suite(0, 0), due);
                    is("of SUITE 1, too", bench.suite(1, 0), due);
                    is("the most INPUTS", bench.suite(0, 2), states - 1 + extra + 1);
                    is("the last one", bench.test(0, due - 1) > 0, true);
                    is("none behind it", bench.test(0, due), -2);
                }
            }
        }
    }

    /** The HEADS behind the farthest STATE have all that is due behind them, the last one, too. */
    private void lastHead() {
        for (int extra = 0; extra < 3; extra++) {
            SuiteBench bench = Kit.machine("extra " + extra + ";", "bcdefa-000001", STILL, STILL);
            // f itself is told by x alone: in SUITE 1 the last x of the HEAD leads to a, whose MARKS have up to 5.
            String[][] ends = {{"2", "22", "222"}, {"0", "20", "220"}};
            for (int suite = 0; suite < 2; suite++) {
                int many = bench.suite(suite, 0);
                is("the last TEST of SUITE " + suite, bench.test(suite, many - 1),
                    Kit.word("00000" + ends[suite][extra] + "00000"));
                is("its INPUTS", bench.suite(suite, 2), 11 + extra);
                is("TESTS of SUITE " + suite, many, Oracle.of(bench).tests(suite).size());
            }
        }
    }

    // "SIGN of a STATE: the first WORD WITHIN 8 whose ANSWER from it is none of those from other REACHED STATES"
    private void signs() {
        // One alone tells itself by y, and stays: each in turn. To it one goes by x.
        for (int odd = 0; odd < 6; odd++) {
            String outputs = "000000".substring(0, odd) + "1" + "000000".substring(odd + 1);
            SuiteBench bench = Kit.machine("", RING, "abcdef-" + outputs);
            for (int s = 0; s < 6; s++) {
                is("sign(" + s + ") of " + outputs, bench.sign(s), Kit.word("000000".substring(0, (odd - s + 6) % 6) + "1"));
            }
        }
    }

    private void is(String call, boolean got, boolean due) {
        kit.is(call, got, due);
    }

    /** By x all in a ring, by the other INPUTS they stay; no OUTPUT tells them apart. */
    private static SuiteBench ring(int states, int inputs, int extra, String[] rows) {
        String[] cut = new String[inputs];
        for (int i = 0; i < inputs; i++) {
            String next = rows[i].substring(0, states - 1) + (i == 0 ? 'a' : rows[i].charAt(states - 1));
            cut[i] = next + "-" + "0".repeat(states);
        }
        return Kit.machine("extra " + extra + ";", cut);
    }

    /** STATES that aren't REACHED have no HEADS, no MUTANTS, no ARCS in the TOUR. */
    private void notReached() {
        for (int reached = 1; reached <= 6; reached++) {
            String next = "bcdefa".substring(0, reached - 1) + "a" + "abcdef".substring(reached);
            SuiteBench bench = Kit.machine("", next + "-000000", STILL, STILL);
            is("REACHED", bench.count(4), reached);
            is("TESTS", bench.suite(0, 0), reached * 2 + 1);
            is("MUTANTS", bench.count(8), reached * 3 * 6);
            is("those that are EQUAL", bench.mutants(0, 1), reached * 3 * 5);
            is("INPUTS of the TOUR", bench.suite(2, 1), reached + 2 + 3 * (reached - 1));
            SuiteBench one = Kit.machine("", next + "-" + "0".repeat(reached) + "1".repeat(6 - reached), STILL, STILL);
            is("those that aren't REACHED are no SPLITTERS", one.splitter(0), 0);
            is("TESTS then", one.suite(0, 0), reached * 2 + 1);
        }
    }

    // "as long as there is a WORD from where one stands whose last ARC isn't taken yet, the first such one is gone"
    private void walks() {
        // 18 ARCS: round by x, then those that stay, from each STATE to the next one by x.
        walk("18 ARCS", "00000012012012012012012", RING, STILL, STILL);
        // Each y leads home: the last one is 6 INPUTS away.
        walk("6 INPUTS away", "000000" + "1" + "01" + "001" + "0001" + "00001" + "000001", RING, "aaaaaa-000000");
        walk("6 INPUTS away, by z, too", "0000001" + "2" + "01" + "02" + "001" + "002" + "0001" + "0002" + "00001" + "00002"
            + "000001" + "000002", RING, "aaaaaa-000000", "aaaaaa-000000");
        // Home is d; two INPUTS lead on, the later one is taken from each STATE on the second round.
        walk("home is d", "000000" + "1" + "1" + "01" + "001" + "00001" + "000001", RING, "dddddd-000000");
        walk("two lead on", "000000" + "1" + "1" + "2" + "1" + "02" + "1" + "002" + "2" + "1" + "00002" + "1" + "000002",
            RING, "dddddd-000000", RING);
    }

    /** All STATES are ALIKE: there are no SIGNS, the CHECK goes as the TOUR. */
    private void walk(String name, String due, String... rows) {
        SuiteBench bench = Kit.machine("", rows);
        for (int what = 0; what < 2; what++) {
            for (int k = 0; k < due.length(); k++) {
                is(name + ": way(" + what + ", " + k + ")", bench.way(what, k), due.charAt(k) - '0');
            }
            is(name + ": behind the last", bench.way(what, due.length()), -2);
            is(name + ": INPUTS", bench.suite(2 + what, 1), due.length());
        }
    }

    // "PRESET: no two have the same ANSWER. HOMING: those with the same ANSWER end in the same STATE."
    private void threePairs() {
        int[][] places = {{0, 1, 2}, {0, 2, 1}, {1, 0, 2}, {1, 2, 0}, {2, 0, 1}, {2, 1, 0}};
        for (int[] pairs : places) {
            for (int late = 0; late < 3; late++) {
                threePairs(pairs, late);
            }
        }
    }

    /** By x three pairs are told apart and change places; y tells two of them apart in themselves, z the late one. */
    private void threePairs(int[] pairs, int late) {
        StringBuilder next = new StringBuilder();
        StringBuilder soon = new StringBuilder("abcdef-");
        StringBuilder last = new StringBuilder("abcdef-");
        for (int s = 0; s < 6; s++) {
            next.append((char) ('a' + pairs[s / 2] * 2 + s % 2));
            soon.append(s / 2 != late ? s % 2 : 0);
            last.append(s / 2 == late ? s % 2 : 0);
        }
        String name = next + ", the late pair " + late;
        // All six are REACHED only if x leads round: so z does, with the OUTPUTS as told.
        String turned = last.toString().replace("abcdef", "bcdefa");
        SuiteBench bench = Kit.machine("", next + "-001122", soon.toString(), turned);
        is(name + ": REACHED", bench.count(4), 6);
        Oracle oracle = Oracle.of(bench);
        for (int what = 0; what < 3; what++) {
            is(name + ": word(" + what + ")", bench.word(what), Oracle.number(oracle.word(what)));
        }
        SuiteBench still = Kit.machine("", next + "-001122", soon.toString(), last.toString());
        // What one sees by x tells which of y and z is due: a TREE needs two, a WORD for all needs three.
        is(name + ": all six by their TREE", still.tree(63, 0), 2);
        is(name + ": x first", still.tree(63, 1), 0);
    }

    // "FIRST UNLIKE: the first WORD by which ANSWERS aren't the same"
    private void firstUnlike() {
        // By x alone they are told apart, after 13 of them; y and z stay, with OUTPUT 0 in both.
        String twists = "more g;more h;twist a x b 1;twist b x h 1;twist c x g 1;twist d x e 1;twist e x f 0;"
            + "twist f x c 1;twist g x a 1;twist h x d 1;";
        for (int inputs = 1; inputs <= 3; inputs++) {
            String[] rows = java.util.Arrays.copyOf(new String[] {"ebdbfc-111011", STILL, STILL}, inputs);
            SuiteBench bench = Kit.machine(twists, rows);
            is("13 of " + inputs + " INPUTS", bench.witness(), Kit.word("0000000000000"));
            is("not EQUAL", bench.isEqual(), false);
            is("PLACES", bench.count(12), 8);
        }
        // y and z lead home from everywhere: who comes to both homes again and again must not lose the way.
        SuiteBench home = Kit.machine(twists + "twist g y a 0;twist g z a 0;twist h y a 0;twist h z a 0;", "ebdbfc-111011",
            "aaaaaa-000000", "aaaaaa-000000");
        is("13, with ways home", home.witness(), Kit.word("0000000000000"));
    }

    // "COVERED by SUITE 0 or 1", of 252 MUTANTS
    private void covered() {
        SuiteBench bench = Kit.machine("", "bcdefa-999999", "acbedf-000000", "fedcba-123456");
        is("the most MUTANTS", bench.count(8), 252);
        is("SUITE 0 notices all", bench.mutants(0, 2), 252);
        is("the last one, too", bench.mutants(0, 4), -2);
        for (int suite = 0; suite < 2; suite++) {
            is("COVERED by SUITE " + suite, bench.covered(suite), Oracle.of(bench).covered(suite));
        }
        is("the last MUTANT", bench.mutant(251, 0) * 1000 + bench.mutant(251, 1) * 100 + bench.mutant(251, 3), 5209);
    }

    // "of the first 40 SUSPECTS, the greatest number of those with like ANSWERS is least, the first one"
    private void next() {
        // Each OUTPUT was asked: those that are left are EQUAL, and the first 40 of them answer alike by all TESTS.
        SuiteBench alike = Kit.machine("", RING, STILL, STILL);
        alike.ask(Kit.word("012012012012012"));
        alike.ask(Kit.word("00000012"));
        is("the EQUAL ones", alike.suspects(0), 90);
        is("all of the 40 alike: the first TEST", alike.next(), alike.test(1, 0));
        // x by another OUTPUT, y by another OUTPUT, the MACHINE.
        SuiteBench three = Kit.machine("", "a-0", "a-0");
        is("two of three alike by x and by y", three.next(), 1);
        SuiteBench longer = Kit.machine("extra 1;", "a-0", "a-0");
        is("all three unlike by xy", longer.next(), Kit.word("01"));
        // OUTPUTS 0 .. 9 by x: all ten of them are unlike; a row of more is none.
        for (int output = 0; output < 10; output++) {
            SuiteBench top = Kit.machine("", "bb-9" + output, "ab-00");
            is("OUTPUT 9 and " + output, top.next(), Oracle.of(top).next());
        }
        // Two groups by the first INPUT, whose OUTPUTS by the second one are 9 and 0.
        is("OUTPUT 9 of one group, 0 of the next", Kit.machine("", "ba-09", "ba-99").next(), 21);
        is("the other way round", Kit.machine("", "ba-09", "ba-90").next(), 21);
        int[] outputs = {0, 1, 8, 9};
        for (int k = 0; k < 256; k++) {
            String row = "ba-" + outputs[k & 3] + outputs[k >> 2 & 3];
            SuiteBench two = Kit.machine("", row, "ba-" + outputs[k >> 4 & 3] + outputs[k >> 6]);
            is("OUTPUTS of " + row + ", no. " + k, two.next(), Oracle.of(two).next());
        }
        is("of three STATES", Kit.machine("", "aca-099", "bba-990").next(), 149);
        // Less SUSPECTS, then all again: what a WORD told ahead of it doesn't count.
        longer.ask(Kit.word("0"));
        is("two are left", longer.suspects(0) + longer.suspects(1), 2);
        is("by xy", longer.next(), Kit.word("01"));
        longer.forget();
        is("by xy all three again, not by xx", longer.next(), Kit.word("01"));
        for (int extra = 0; extra < 3; extra++) {
            SuiteBench some = Kit.machine("extra " + extra + ";", "bcb-010", "aca-001", "cab-100");
            for (int k = 0; k < 4; k++) {
                Oracle oracle = Oracle.of(some);
                for (int asked = 0; asked < k; asked++) {
                    oracle.logWords.add(Integer.toString(asked));
                    oracle.logAnswers.add(Long.toString(some.answer(0, asked + 1)));
                }
                is("extra " + extra + ", " + k + " asked", some.next(), oracle.next());
                some.ask(k + 1);
            }
        }
        SuiteBench nines = Kit.machine("", "bcdefa-999999", "acbedf-999999", "fedcba-999999");
        is("OUTPUTS of 9 alone", nines.next(), Oracle.of(nines).next());
    }

    // "Of how many of these WORDS BY CHANCE .. the ANSWER of the BUILT one isn't the MACHINE's"
    private void chance() {
        // From b on other OUTPUTS than from a: both begin in 0.
        SuiteBench bench = Kit.machine("", "ba-05", "ba-17");
        for (int n = 1; n <= 15; n++) {
            is("EQUAL, " + n, bench.chance(0, n), 0);
            is("EQUAL, from the last seed, " + n, bench.chance(Integer.MAX_VALUE, n), 0);
        }
        bench.twist(1, 0, 0, 9);
        bench.twist(1, 1, 0, 9);
        is("b alone: not by one INPUT", bench.chance(0, 1), 0);
        is("b alone: by two", bench.chance(0, 2), 10);
    }

    // "3 told already: a name, of whatever it is (at W)"
    private void namesToldAlready() {
        String states = "state a;state b;state c;state d;state e;";
        String[] names = {"a", "b", "c", "d", "e", "x", "y"};
        for (String name : names) {
            for (String line : new String[] {"state ", "input ", "more "}) {
                refused(states + "input x;input y;" + line, name + ";", 3);
            }
        }
        String all = states + "input x;input y;input z;more m;more ";
        for (String name : new String[] {"a", "e", "x", "y", "z", "m"}) {
            refused(all, name + ";", 3);
        }
        for (String name : new String[] {"a", "e", "m", "n", "x", "y"}) {
            refused(states + "input x;input y;more m;more n;input ", name + ";", 3);
        }
        is("the eighth name of all", Kit.text(new SuiteBench(), all + "n;"), 10);
    }

    // "4 a name that isn't told ahead as what it must be (at W)"
    private void statesOfMore() {
        String six = "state a;state b;state c;state d;state e;state f;input x;input y;input z;more m;more n;";
        for (String name : new String[] {"m", "n", "x", "z", "k"}) {
            refused(six + "arc ", name + " z f 9;", 4);
            refused(six + "arc f z ", name + " 9;", 4);
        }
        for (String name : new String[] {"x", "y", "z", "k"}) {
            refused(six + "twist ", name + " z n 9;", 4);
            refused(six + "twist n z ", name + " 9;", 4);
        }
        for (String name : new String[] {"a", "f", "m", "n", "k"}) {
            refused(six + "arc f ", name + " f 9;", 4);
            refused(six + "twist n ", name + " n 9;", 4);
        }
        SuiteBench bench = Kit.bench(six + "arc f z f 9;twist n z n 9;twist f z n 8;");
        is("the last ARC of the MACHINE", Twins.arc(bench, 5, 2, 1), 9);
        is("the last ARC of the BUILT one", bench.built(7, 2, 0) * 10 + bench.built(7, 2, 1), 79);
        is("from the last STATE to the last of MORE", bench.built(5, 2, 0) * 10 + bench.built(5, 2, 1), 78);
    }

    private void refused(String begin, String rest, int fault) {
        SuiteBench bench = new SuiteBench();
        is("text of " + begin + rest, Kit.text(bench, begin + rest), -1);
        is("fault(0) of " + begin + rest, bench.fault(0), fault);
        is("fault(1) of " + begin + rest, bench.fault(1), begin.length());
    }
}
