import java.util.ArrayList;
import java.util.List;

/**
 * MUTANTS, SMALL ones, TREES, SUSPECTS, chance (==== 3, promises 24 to 36): each sentence that names an edge, tried on
 * both of its sides. The sentence stands above its test.
 */
public final class MutantEdgeTest {
    private final Kit kit = new Kit("MutantEdgeTest");

    public static void main(String[] args) {
        MutantEdgeTest test = new MutantEdgeTest();
        test.top();
        test.mutantsInOrder();
        test.whatIsNoticed();
        test.equalMutants();
        test.smallOnes();
        test.smallThatPass();
        test.trees();
        test.twoStatesAtLeast();
        test.wordsForAll();
        test.covered();
        test.logOfTwenty();
        test.lastOfTheLog();
        test.suspects();
        test.lessThanTwo();
        test.firstForty();
        test.tenWords();
        test.draws();
        test.kit.end();
    }

    private void is(String call, long got, long due) {
        kit.is(call, got, due);
    }

    // "TOP: the greatest OUTPUT of ARCS of the MACHINE, 1 at least"
    private void top() {
        for (int output = 0; output < 10; output++) {
            SuiteBench bench = Kit.machine("more m;twist a x m 9;twist m x m 9;", "a-" + output);
            int top = Math.max(output, 1);
            is("TOP of OUTPUT " + output, bench.count(6), top);
            is("MUTANTS of OUTPUT " + output, bench.count(8), top);
            is("the last one's OUTPUT", bench.mutant(top - 1, 3), output == top ? top - 1 : top);
            is("no more", bench.mutant(top, 3), -1);
            bench.twist(0, 0, 0, 9);
            is("of the MACHINE alone", bench.count(6), top);
            is("of one that isn't REACHED, too", Kit.machine("", "aa-0" + output).count(6), top);
            is("its MUTANTS are of a alone", Kit.machine("", "aa-0" + output).count(8), 1 + top);
        }
    }

    // "for each REACHED STATE by numbers, each INPUT: .. goes to another STATE (each, by numbers), then: .. OUTPUT"
    private void mutantsInOrder() {
        String[][] machines = {{"a-0"}, {"a-1"}, {"ba-05"}, {"aca-031", "aaa-200"}, {"bcdefa-999999", "acbedf-000000", "fedcba-123456"},
            {"abcdef-111111", "abcdef-000000", "abcdef-000000"}, {"fbcdea-001000"}};
        for (String[] rows : machines) {
            SuiteBench bench = Kit.machine("", rows);
            List<int[]> due = mutants(bench);
            is("count(8)", bench.count(8), due.size());
            for (int suite = 0; suite < 4; suite++) {
                is("mutants(" + suite + ", 0)", bench.mutants(suite, 0), due.size());
            }
            for (int k = 0; k < due.size(); k++) {
                for (int what = 0; what < 4; what++) {
                    is("mutant(" + k + ", " + what + ")", bench.mutant(k, what), due.get(k)[what]);
                }
                is("parts(k, k)", bench.parts(k, k), -2);
            }
            is("behind the last", bench.mutant(due.size(), 0), -1);
            is("parts with it", bench.parts(0, due.size()), -1);
            is("mutate by it", bench.mutate(due.size()) ? 1 : 0, 0);
            is("mutate by the last", bench.mutate(due.size() - 1) ? 1 : 0, 1);
            is("one ARC then", bench.count(11), 1);
        }
    }

    private static List<int[]> mutants(SuiteBench bench) {
        List<int[]> row = new ArrayList<>();
        for (int s = 0; s < bench.count(0); s++) {
            for (int i = 0; i < bench.count(1) && bench.access(s) != -2; i++) {
                int next = bench.arc(s, i, 0);
                int output = bench.arc(s, i, 1);
                for (int other = 0; other < bench.count(0); other++) {
                    if (other != next) {
                        row.add(new int[] {s, i, other, output});
                    }
                }
                for (int other = 0; other <= bench.count(6); other++) {
                    if (other != output) {
                        row.add(new int[] {s, i, next, other});
                    }
                }
            }
        }
        return row;
    }

    // "1 how many are EQUAL to the MACHINE, 2 how many FAIL one of its TESTS, 3 how many neither; 4 the first .. (-2: none)"
    private void whatIsNoticed() {
        // Lone a, and b which tells itself: to b goes unnoticed by x alone, the OUTPUT does not.
        for (int extra = 0; extra < 3; extra++) {
            SuiteBench bench = Kit.machine("extra " + extra + ";", "ab-01");
            for (int suite = 0; suite < 4; suite++) {
                boolean seen = extra > 0 && suite < 2;
                is("MUTANTS", bench.mutants(suite, 0), 2);
                is("EQUAL", bench.mutants(suite, 1), 0);
                is("FAIL", bench.mutants(suite, 2), seen ? 2 : 1);
                is("neither", bench.mutants(suite, 3), seen ? 0 : 1);
                is("the first that is neither", bench.mutants(suite, 4), seen ? -2 : 0);
            }
        }
        // b is ALIKE to a, c isn't: to b is EQUAL, to c is neither.
        SuiteBench later = Kit.machine("", "abc-001");
        is("one is EQUAL", later.mutants(0, 1), 1);
        is("the first that is neither", later.mutants(0, 4), 1);
        SuiteBench all = Kit.machine("", "bcdefa-000001");
        is("SUITE 0 for 0 notices all that aren't EQUAL", all.mutants(0, 3), 0);
        is("none is the first", all.mutants(0, 4), -2);
        is("the TOUR doesn't", all.mutants(2, 3) > 0, true);
        is("the first by the TOUR", all.mutants(2, 4) >= 0, true);
    }

    private void is(String call, boolean got, boolean due) {
        kit.is(call, got, due);
    }

    // "FIRST UNLIKE of two MUTANTS; -2: they are EQUAL (one and the same, too)"
    private void equalMutants() {
        SuiteBench alike = Kit.machine("", "abc-000");
        is("to b or to c, all ALIKE", alike.parts(0, 1), -2);
        is("both are EQUAL to the MACHINE", alike.mutants(0, 1), 2);
        is("by the OUTPUT", alike.parts(0, 2), 1);
        is("turned round", alike.parts(2, 0), 1);
        SuiteBench far = Kit.machine("", "bcdefa-000001");
        // a to a and a to c: c is four from the OUTPUT, a never comes to it.
        is("far apart", far.parts(0, 1), Kit.word("00000"));
        is("by what comes first", far.parts(0, 5), 1);
    }

    // "SMALL ones of k: all machines of k places .. by INPUTS, each ARC to any of these, OUTPUT 0 or 1"
    private void smallOnes() {
        int[][] due = {{1, 1}, {2, 16}, {4, 256}, {8, 4096}};
        for (int inputs = 0; inputs <= 3; inputs++) {
            StringBuilder text = new StringBuilder("state a;");
            for (int i = 0; i < inputs; i++) {
                text.append("input ").append((char) ('x' + i)).append(';');
            }
            SuiteBench bench = Kit.bench(text.toString());
            for (int suite = 0; suite < 2; suite++) {
                for (int k = 1; k <= 2; k++) {
                    is("small(" + k + ") of " + inputs + " INPUTS", bench.small(k, suite, 0), due[inputs][k - 1]);
                    is("as many are EQUAL as pass, or fewer",
                        bench.small(k, suite, 2) <= bench.small(k, suite, 1), true);
                }
                is("k 1: it alone is EQUAL", bench.small(1, suite, 2), 1);
                is("k 0", bench.small(0, suite, 0), -1);
                is("k 3", bench.small(3, suite, 0), -1);
            }
            is("SUITE 2", bench.small(1, 2, 0), -1);
        }
    }

    // "1 how many FAIL none of its TESTS, 2 how many are EQUAL to the MACHINE"
    private void smallThatPass() {
        for (int extra = 0; extra < 3; extra++) {
            // One STATE, OUTPUT 1. TESTS of extra and 1 INPUTS. Of two places: those home at once, 4; those that go on
            // to the other one pass by the first OUTPUT alone, if one INPUT is asked, else by both.
            SuiteBench bench = Kit.machine("extra " + extra + ";", "a-1");
            is("k 1 pass", bench.small(1, 0, 1), 1);
            is("k 1 EQUAL", bench.small(1, 0, 2), 1);
            is("k 2 pass", bench.small(2, 0, 1), extra == 0 ? 8 : 6);
            is("k 2 EQUAL", bench.small(2, 0, 2), 6);
        }
        SuiteBench two = Kit.machine("", "a-2");
        is("OUTPUT 2 has none", two.small(2, 0, 1), 0);
        is("nor EQUAL", two.small(2, 1, 2), 0);
        SuiteBench ring = Kit.machine("", "bca-001");
        is("three KINDS: none of two is EQUAL", ring.small(2, 0, 2), 0);
    }

    // "the fewest INPUTS, at worst, 8 at most ..; the first INPUT by which that can be"
    private void trees() {
        SuiteBench chain = Kit.machine("", "bcdefa-000001");
        for (int other = 1; other < 6; other++) {
            is("a and no. " + other, chain.tree(1 | 1 << other, 0), 6 - other);
            is("by x", chain.tree(1 | 1 << other, 1), 0);
        }
        is("all six", chain.tree(63, 0), 5);
        // By x all fall together, by y and by z they are told apart: y is the first.
        SuiteBench three = Kit.machine("", "aa-00", "ab-01", "ab-10");
        is("y", three.tree(3, 1), 1);
        is("one INPUT", three.tree(3, 0), 1);
        // By x it can be too, but by one more.
        SuiteBench more = Kit.machine("", "ab-00", "ab-01");
        is("the fewest", more.tree(3, 0), 1);
        is("not x, which only costs", more.tree(3, 1), 1);
        SuiteBench never = Kit.machine("", "ba-00");
        is("ALIKE", never.tree(3, 0), -2);
        is("ALIKE, the first INPUT", never.tree(3, 1), -2);
        SuiteBench fallen = Kit.machine("", "cdcd-0001", "ddcd-0000");
        is("together at once", fallen.tree(3, 0), 2);
        is("that would be by y", Kit.machine("", "ddcd-0001").tree(3, 0), -2);
    }

    // "NONE: no such STATES, less than two"
    private void twoStatesAtLeast() {
        for (int states = 1; states <= 6; states++) {
            String next = "abcdef".substring(0, states);
            SuiteBench bench = Kit.machine("", next + "-" + "012345".substring(0, states));
            for (int set = -2; set <= 130; set++) {
                boolean there = set >= 0 && set < 1 << states && Integer.bitCount(set) >= 2;
                is("tree(" + set + ", 0) of " + states, bench.tree(set, 0), there ? 1 : -1);
                is("tree(" + set + ", 1) of " + states, bench.tree(set, 1), there ? 0 : -1);
            }
            is("the highest bit", bench.tree(Integer.MIN_VALUE | 3, 0), -1);
            is("one above", bench.tree(1 << states | 1, 0), -1);
        }
    }

    // "WORDS from all REACHED at once .. PRESET: no two have the same ANSWER. HOMING: .. GATHER: all end in the same STATE"
    private void wordsForAll() {
        int[][] due = {{0, 0, 0}, {1, 1, 1}, {1, 1, -2}, {-2, 1, 1}, {-2, -2, -2}, {0, 0, 0}};
        String[] rows = {"a-0", "bb-01", "ba-01", "bb-00", "ba-00", "aaa-012"};
        for (int k = 0; k < rows.length; k++) {
            SuiteBench bench = Kit.machine("", rows[k]);
            for (int what = 0; what < 3; what++) {
                is("word(" + what + ") of " + rows[k], bench.word(what), due[k][what]);
            }
        }
    }

    // "as long as some are left, the TEST that most of those left FAIL, the first one, is taken"
    private void covered() {
        for (int inputs = 1; inputs <= 3; inputs++) {
            String[] rows = {"a-0", "a-0", "a-0"};
            SuiteBench bench = Kit.machine("", java.util.Arrays.copyOf(rows, inputs));
            is("each INPUT has a TEST of its own", bench.covered(0), inputs);
            is("in SUITE 1, too", bench.covered(1), inputs);
        }
        is("one TEST does all", Kit.machine("extra 2;", "bcdefa-000001").covered(0), 1);
        is("none is there", Kit.bench("state a;").covered(0), 0);
        String[] most = {"fffebf-000000", "cfdfff-000000", "ffffff-010000"};
        SuiteBench bench = Kit.machine("extra 2;", most);
        is("many are taken", bench.covered(0), Oracle.of(bench).covered(0));
        is("of SUITE 1", bench.covered(1), Oracle.of(bench).covered(1));
        is("more than those of one TEST", bench.covered(0), 50);
    }

    // "THE LOG: .. 20 at most"; "-3: THE LOG has 20"
    private void logOfTwenty() {
        SuiteBench bench = Kit.machine("", "ab-01", "ba-10");
        for (int k = 1; k <= 20; k++) {
            is("ask no. " + k, bench.ask(k % 2 + 1), 1 - k % 2 == 0 ? 1 : 0);
            is("in THE LOG", bench.count(9), k);
        }
        for (int k = 0; k < 3; k++) {
            is("ask behind 20", bench.ask(1), -3);
            is("without INPUTS, too", bench.ask(0), -3);
            is("still 20", bench.count(9), 20);
            is("no such WORD goes first", bench.ask(3), -1);
            is("of 16, too", bench.ask(0x55555555), -1);
            is("below 0, too", bench.ask(-1), -1);
        }
        int suspects = bench.suspects(0);
        bench.twist(0, 0, 0, 5);
        is("what is refused is not asked", bench.ask(1), -3);
        is("nor held against anyone", bench.suspects(0), suspects);
        is("the MACHINE, too", bench.suspects(1), 1);
        is("answerBuilt answers still", bench.answerBuilt(1), 5);
        is("keep()", bench.keep(), 20);
        is("forget()", bench.forget(), 20);
        is("forget() of none", bench.forget(), 0);
        is("ask again", bench.ask(1), 5);
        is("one is in THE LOG", bench.count(9), 1);
        is("back()", bench.back(), 20);
        is("full again", bench.ask(1), -3);
        is("the MACHINE again", bench.suspects(1), 1);
    }

    /** The twentieth WORD counts as the others do; nineteen don't tell. */
    private void lastOfTheLog() {
        SuiteBench bench = Kit.machine("", "a-0", "a-0");
        bench.twist(0, 1, 0, 1);
        for (int k = 1; k < 20; k++) {
            bench.ask(1);
        }
        is("by nineteen: who", bench.suspect(0), 1);
        is("by nineteen: the MACHINE", bench.suspect(1), 1000);
        is("by nineteen: no more", bench.suspect(2), -2);
        is("the twentieth", bench.ask(2), 1);
        is("by twenty: who", bench.suspect(0), 1);
        is("by twenty: no more", bench.suspect(1), -2);
        is("by twenty: not the MACHINE", bench.suspects(1), 0);
        bench.keep();
        bench.forget();
        is("all again", bench.suspects(0) + bench.suspects(1), 3);
        bench.back();
        is("the twentieth is in the IMAGE", bench.suspects(1), 0);
    }

    // "SUSPECTS: MUTANTS, by numbers, and behind them the MACHINE itself, whose ANSWERS are those in THE LOG"
    private void suspects() {
        SuiteBench bench = Kit.machine("", "bcdefa-999999", "acbedf-000000", "fedcba-123456");
        int many = bench.count(8);
        is("nothing was asked: all MUTANTS", bench.suspects(0), many);
        is("the most", many, 252);
        for (int k = 0; k < many; k++) {
            is("suspect(" + k + ")", bench.suspect(k), k);
        }
        is("the MACHINE", bench.suspect(many), 1000);
        is("no more", bench.suspect(many + 1), -2);
        bench.ask(0);
        is("a WORD without INPUTS tells nothing", bench.suspects(0), many);
        bench.ask(3);
        // Of a by z the 9 others of the OUTPUT are out.
        is("by z: those of another OUTPUT aren't", bench.suspects(0), many - 9);
        is("by z: the MACHINE is", bench.suspects(1), 1);
        bench.forget();
        bench.twist(0, 2, 0, 0);
        bench.ask(3);
        is("by another OUTPUT: one alone", bench.suspects(0), 1);
        is("by another OUTPUT: the MACHINE isn't", bench.suspects(1), 0);
        is("by another OUTPUT: who", bench.mutant(bench.suspect(0), 3), 0);
        is("by another OUTPUT: its INPUT", bench.mutant(bench.suspect(0), 1), 2);
        is("what is twisted later stays untold", bench.mend(0, 2), true);
        is("THE LOG is as it was", bench.suspects(0), 1);
        bench.ask(3);
        is("both ANSWERS: nobody", bench.suspects(0) + bench.suspects(1), 0);
        is("suspect(0) of nobody", bench.suspect(0), -2);
    }

    // "-2: there are less than two SUSPECTS"
    private void lessThanTwo() {
        SuiteBench two = Kit.machine("", "a-0");
        is("two: the MUTANT, the MACHINE", two.suspects(0) + two.suspects(1), 2);
        is("two", two.next(), 1);
        two.ask(1);
        is("one, the MACHINE", two.next(), -2);
        two.forget();
        two.twist(0, 0, 0, 1);
        two.ask(1);
        is("one, the MUTANT", two.suspect(0), 0);
        is("one", two.next(), -2);
        two.twist(0, 0, 0, 0);
        two.ask(1);
        is("none", two.next(), -2);
        two.forget();
        is("two again", two.next(), 1);
    }

    // "NEXT: .. of the first 40 SUSPECTS, the greatest number of those with like ANSWERS is least, the first one"
    private void firstForty() {
        // By 39 it would be 759, by 41 and by all others.
        is("60 MUTANTS", Kit.machine("", "accdc-00000", "dccab-01010", "aabca-00110").next(), 187);
        is("48 MUTANTS", Kit.machine("", "ddbd-0101", "ddba-0010", "cbca-1000").next(), 889);
        is("75 MUTANTS", Kit.machine("", "cbeca-00100", "eacba-01000", "dcbcd-10100").next(), 25);
        // 40 MUTANTS: the MACHINE is the 41st; with it, it would be 10649 and 1622.
        SuiteBench forty = Kit.machine("", "adebe-10000", "ebaad-00100");
        is("40 of them", forty.suspects(0), 40);
        is("the MACHINE is left out", forty.next(), 2649);
        is("again", Kit.machine("", "cabca-00000", "cadcc-10000").next(), 1686);
        // 39 MUTANTS are left: the MACHINE is the 40th; without it, it would be 5530.
        SuiteBench less = Kit.machine("", "cdbce-00000", "cacce-10000");
        less.ask(2);
        is("39 of them", less.suspects(0), 39);
        is("the MACHINE is among them", less.next(), 5466);
    }

    // "BY CHANCE: ten WORDS of n INPUTS"
    private void tenWords() {
        // The eighth PLACE in a row tells: seven INPUTS don't come to it.
        SuiteBench far = Kit.machine("more g;more h;twist a x b 0;twist b x c 0;twist c x d 0;twist d x e 0;twist e x f 0;"
            + "twist f x g 0;twist g x h 0;twist h x h 1;", "abcdef-000000");
        for (int n = 0; n <= 16; n++) {
            int due = n < 1 || n > 15 ? -1 : n < 8 ? 0 : 10;
            for (int seed : new int[] {-1, 0, 1, 65535, 65536, 99999, Integer.MAX_VALUE}) {
                is("chance(" + seed + ", " + n + ")", far.chance(seed, n), due);
            }
            is("chance(-2, " + n + ")", far.chance(-2, n), -1);
            is("chance of the least, " + n, far.chance(Integer.MIN_VALUE, n), -1);
        }
    }

    // "DRAW: .. times 1103515245, and 12345 more, without what is above 31 bits .. by 65536 (rounded down), modulo .."
    private void draws() {
        // From 0 on: 0, 21468, 9988, 22117, 3498, 16927, 16045, 19741, 12122, 8410.
        int[][] due = {{10}, {6, 4}, {3, 6, 1}};
        for (int inputs = 1; inputs <= 3; inputs++) {
            String[] rows = java.util.Arrays.copyOf(new String[] {"a-0", "a-0", "a-0"}, inputs);
            for (int odd = 0; odd < inputs; odd++) {
                SuiteBench bench = Kit.machine("", rows);
                bench.twist(0, odd, 0, 1);
                is("ten of one INPUT from 0", bench.chance(0, 1), due[inputs - 1][odd]);
                for (long seed : new long[] {0, 1, 12345, 65535, 65536, 1L << 30, (1L << 31) - 2, (1L << 31) - 1}) {
                    for (int n = 1; n <= 15; n++) {
                        is("chance(" + seed + ", " + n + ")", bench.chance((int) seed, n), drawn(seed, n, inputs, odd));
                    }
                }
            }
        }
    }

    /** In how many of the ten WORDS this INPUT is drawn. */
    private static int drawn(long seed, int n, int inputs, int odd) {
        int words = 0;
        long last = seed;
        for (int w = 0; w < 10; w++) {
            int times = 0;
            for (int k = 0; k < n; k++) {
                last = (last * 1103515245L + 12345L) % (1L << 31);
                times += last / 65536 % inputs == odd ? 1 : 0;
            }
            words += times > 0 ? 1 : 0;
        }
        return words;
    }
}
