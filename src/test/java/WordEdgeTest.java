/**
 * The MACHINE, its WORDS and its SUITES (==== 2, promises 6 to 23): each sentence that names an edge, tried on both of
 * its sides. The sentence stands above its test.
 */
public final class WordEdgeTest {
    /** By x on to the next STATE, home from the last one; by y one stays, and a alone tells itself. */
    private static final String[] RING = {"bcdefa-000000", "abcdef-100000"};
    /** By x on to the next STATE; the last one leads home and tells itself. */
    private static final String CHAIN = "bcdefa-000001";

    private final Kit kit = new Kit("WordEdgeTest");

    public static void main(String[] args) {
        WordEdgeTest test = new WordEdgeTest();
        test.arcsNotTold();
        test.firstStateAndPlace();
        test.fifteenInputs();
        test.firstOutputHighest();
        test.orderOfWords();
        test.reached();
        test.separatorOfFive();
        test.kinds();
        test.splitters();
        test.onlySplitter();
        test.marks();
        test.signs();
        test.heads();
        test.thirteenInputs();
        test.eachTestOnce();
        test.walks();
        test.suitesWithoutBranches();
        test.firstFailure();
        test.firstUnlike();
        test.enough();
        test.kit.end();
    }

    private void is(String call, long got, long due) {
        kit.is(call, got, due);
    }

    private static int word(String inputs) {
        return Kit.word(inputs);
    }

    // "by each INPUT an ARC from each (not told: to itself, OUTPUT 0)", "of MORE to themselves, OUTPUT 0"
    private void arcsNotTold() {
        for (int states = 1; states <= 6; states++) {
            for (int inputs = 1; inputs <= 3; inputs++) {
                String[] rows = new String[inputs];
                java.util.Arrays.fill(rows, "abcdef".substring(0, states) + "-" + "0".repeat(states));
                SuiteBench bench = Kit.machine("more m;more n;", rows);
                for (int p = 0; p < states + 2; p++) {
                    for (int i = 0; i < inputs; i++) {
                        is("built next", bench.built(p, i, 0), p);
                        is("built OUTPUT", bench.built(p, i, 1), 0);
                        is("arc next", Twins.arc(bench, p, i, 0), p < states ? p : Twins.NO_INDEX);
                        is("arc OUTPUT", Twins.arc(bench, p, i, 1), p < states ? 0 : Twins.NO_INDEX);
                    }
                }
                is("no ARC isn't the MACHINE's", bench.count(11), 0);
            }
        }
        SuiteBench told = Kit.bench("state a;state b;input x;input y;more m;arc b y a 9;twist m y a 8;");
        is("the one that is told", told.arc(1, 1, 0) * 10 + told.arc(1, 1, 1), 9);
        is("the one beside it", told.arc(1, 0, 0) * 10 + told.arc(1, 0, 1), 10);
        is("the one ahead of it", told.arc(0, 1, 0) * 10 + told.arc(0, 1, 1), 0);
        is("the twisted one", told.built(2, 1, 0) * 10 + told.built(2, 1, 1), 8);
        is("the one that isn't", told.built(2, 0, 0) * 10 + told.built(2, 0, 1), 20);
        is("BUILT as the MACHINE, if it isn't twisted", told.built(1, 1, 0) * 10 + told.built(1, 1, 1), 9);
    }

    // "it begins in STATE 0", "it begins in PLACE 0"
    private void firstStateAndPlace() {
        SuiteBench bench = Kit.machine("more m;twist a x m 3;twist b x b 4;twist m x b 5;", "bb-12");
        is("ANSWER from STATE 0", bench.answer(0, word("00")), 12);
        is("ANSWER from STATE 1", bench.answer(1, word("00")), 22);
        is("ANSWER of the BUILT one", bench.answerBuilt(word("000")), 354);
    }

    // "A WORD: INPUTS in a row, 15 at most (none, too)", "INPUT i as i and 1"
    private void fifteenInputs() {
        for (int inputs = 1; inputs <= 3; inputs++) {
            String[] rows = {"a-9", "a-8", "a-7"};
            SuiteBench bench = Kit.machine("", java.util.Arrays.copyOf(rows, inputs));
            for (int input = 0; input < 4; input++) {
                int number = 0;
                long due = 0;
                for (int length = 0; length <= 15; length++) {
                    boolean there = input < inputs || length == 0;
                    is("answer of " + number, bench.answer(0, number), there ? due : -1);
                    is("leads of " + number, bench.leads(0, number), there ? 0 : -1);
                    is("answerBuilt of " + number, bench.answerBuilt(number), there ? due : -1);
                    if (length < 15) {
                        number = number * 4 + input + 1;
                        due = due * 10 + 9 - input;
                    }
                }
                for (int sixteenth = 1; sixteenth < 4; sixteenth++) {
                    is("16 INPUTS", bench.answer(0, sixteenth << 30 | number), -1);
                    is("16 INPUTS asked", bench.ask(sixteenth << 30 | number), -1);
                }
            }
            // A digit that is none at each place of a WORD of 15.
            for (int place = 0; place < 15; place++) {
                int ones = 0x15555555;
                int none = ones & ~(3 << 2 * place);
                is("a 0 at " + place, bench.answer(0, none), place == 14 ? 99999999999999L : -1);
                is("a 3 at " + place, bench.answer(0, none | 3 << 2 * place) >= 0, inputs == 3);
                is("a 2 at " + place, bench.leads(0, none | 2 << 2 * place), inputs > 1 ? 0 : -1);
            }
        }
    }

    private void is(String call, boolean got, boolean due) {
        kit.is(call, got, due);
    }

    // "ANSWER .. told as digits by ten, the first one highest"
    private void firstOutputHighest() {
        SuiteBench bench = Kit.machine("", "bca-907");
        is("15 OUTPUTS", bench.answer(0, word("000000000000000")), 907907907907907L);
        is("15 OUTPUTS, a 0 first", bench.answer(1, word("000000000000000")), 79079079079079L);
        is("none", bench.answer(0, 0), 0);
        is("of THE LOG, too", bench.ask(word("000000000000000")), 907907907907907L);
        is("asked without INPUTS", bench.ask(0), 0);
        is("both are in THE LOG", bench.count(9), 2);
    }

    // "WORDS go by how many INPUTS they have, the fewest first, then by their numbers"
    private void orderOfWords() {
        // c by xx or by z: z; d by yz or zx: yz.
        SuiteBench bench = Kit.machine("", "bcda-0000", "baaa-0000", "cddd-0000");
        is("fewer INPUTS, though a greater number", bench.access(2), word("2"));
        is("the first of two", bench.access(3), word("02"));
        SuiteBench turned = Kit.machine("", "cabd-0000", "bdda-0000");
        is("x first, though it leads to a later STATE", turned.access(3), word("01"));
        // a and b: by y at once, by xx later; by z at once, too.
        SuiteBench apart = Kit.machine("", "cdcd-0001", "abcd-0100", "abcd-0200");
        is("SEPARATOR: y goes ahead of xx and z", apart.separator(0, 1), word("1"));
        SuiteBench two = Kit.machine("", "cdab-0000", "cdcd-0001");
        is("SEPARATOR: xy goes ahead of yy", two.separator(0, 1), word("01"));
    }

    // "REACHED: STATE 0 and all to which a WORD leads from it"
    private void reached() {
        SuiteBench chain = Kit.machine("", CHAIN);
        int access = 0;
        for (int s = 0; s < 6; s++) {
            is("access(" + s + ")", chain.access(s), access);
            access = access * 4 + 1;
        }
        is("all six", chain.count(4), 6);
        for (int last = 0; last < 6; last++) {
            // The last one keeps to itself; those behind it lead home.
            String next = "bcdefa".substring(0, last) + (char) ('a' + last) + "aaaaa".substring(last);
            SuiteBench cut = Kit.machine("", next + "-000000");
            is("REACHED up to " + last, cut.count(4), last + 1);
            for (int s = 0; s < 6; s++) {
                is("access(" + s + ") up to " + last, cut.access(s) == -2, s > last);
            }
        }
    }

    // "SEPARATOR of two that aren't: the first WORD"; "ALIKE: two STATES from which all WORDS have the same ANSWERS"
    private void separatorOfFive() {
        SuiteBench chain = Kit.machine("", CHAIN);
        for (int one = 0; one < 6; one++) {
            for (int other = 0; other < 6; other++) {
                int inputs = 6 - Math.max(one, other);
                is("separator(" + one + ", " + other + ")", chain.separator(one, other),
                    one == other ? -2 : word("000000".substring(0, inputs)));
            }
        }
        SuiteBench even = Kit.machine("", "bcdefa-010101");
        is("ALIKE at a distance of two", even.separator(0, 2), -2);
        is("of four", even.separator(1, 5), -2);
        is("not of three", even.separator(0, 3), word("0"));
    }

    // "KIND of a STATE: the first one that is ALIKE to it (itself, too). KINDS: how many of REACHED ones .."
    private void kinds() {
        SuiteBench even = Kit.machine("", "bcdefa-010101");
        for (int s = 0; s < 6; s++) {
            is("kind(" + s + ")", even.kind(s), s % 2);
        }
        is("KINDS: two", even.count(5), 2);
        SuiteBench chain = Kit.machine("", CHAIN);
        for (int s = 0; s < 6; s++) {
            is("its own kind(" + s + ")", chain.kind(s), s);
        }
        is("KINDS: six", chain.count(5), 6);
        is("KINDS: one", Kit.machine("", "bcdefa-777777").count(5), 1);
        SuiteBench far = Kit.machine("", "cbc-011");
        is("ALIKE to one that isn't REACHED", far.kind(2), 1);
        is("it counts", far.count(5), 2);
        SuiteBench behind = Kit.machine("", "aa-00");
        is("ALIKE to a REACHED one, not REACHED itself", behind.kind(1), 0);
        is("it doesn't count", behind.count(5), 1);
        is("not REACHED, and of another KIND", Kit.machine("", "aa-01").count(5), 1);
    }

    // "SPLITTERS, in order: going along all pairs of REACHED STATES"
    private void splitters() {
        SuiteBench ring = Kit.machine("", RING);
        String[] due = {"1", "00001", "0001", "001", "01"};
        for (int k = 0; k < 5; k++) {
            is("splitter(" + k + ")", ring.splitter(k), word(due[k]));
        }
        is("splitter(5)", ring.splitter(5), -2);
        is("count(7)", ring.count(7), 5);
        SuiteBench chain = Kit.machine("", CHAIN);
        is("one tells all apart", chain.count(7), 1);
        is("it", chain.splitter(0), word("00000"));
        SuiteBench far = Kit.machine("", "aba-012");
        is("those that aren't REACHED don't count", far.splitter(0), 0);
        // c isn't REACHED: (a, b) by y alone, though (a, c) by x comes ahead of nothing else.
        SuiteBench near = Kit.machine("", "bac-001", "abc-010");
        is("(a, b)", near.splitter(0), word("1"));
        is("no other", near.splitter(1), -2);
    }

    // "If there are none, the WORD without INPUTS is the only SPLITTER (MARK)."
    private void onlySplitter() {
        SuiteBench alike = Kit.machine("", "bcdefa-333333");
        is("all ALIKE: splitter(0)", alike.splitter(0), 0);
        is("all ALIKE: splitter(1)", alike.splitter(1), -2);
        is("all ALIKE: count(7)", alike.count(7), 1);
        for (int s = 0; s < 6; s++) {
            is("all ALIKE: mark(" + s + ", 0)", alike.mark(s, 0), 0);
            is("all ALIKE: mark(" + s + ", 1)", alike.mark(s, 1), -2);
        }
        SuiteBench two = Kit.machine("", "ba-01");
        is("two that aren't: splitter(0)", two.splitter(0), word("0"));
        is("two that aren't: mark(1, 0)", two.mark(1, 0), word("0"));
        is("two that aren't: mark(1, 1)", two.mark(1, 1), -2);
    }

    // "MARKS of a STATE, by WORDS: SEPARATORS of it and each REACHED one that isn't ALIKE to it, each once"
    private void marks() {
        SuiteBench ring = Kit.machine("", RING);
        String[] due = {"1", "01", "001", "0001", "00001"};
        for (int k = 0; k < 5; k++) {
            is("mark(1, " + k + ")", ring.mark(1, k), word(due[k]));
        }
        is("mark(1, 5)", ring.mark(1, 5), -2);
        is("each once: mark(0, 0)", ring.mark(0, 0), word("1"));
        is("each once: mark(0, 1)", ring.mark(0, 1), -2);
        SuiteBench far = Kit.machine("", "bacd-0111", "abcd-0012");
        is("not REACHED: against a", far.mark(2, 0), word("0"));
        is("not REACHED: against b", far.mark(2, 1), word("1"));
        is("not against d, which isn't REACHED", far.mark(2, 2), -2);
    }

    // "SIGN of a STATE: the first WORD WITHIN 8 .. from other REACHED STATES; it may have none"
    private void signs() {
        SuiteBench ring = Kit.machine("", RING);
        String[] due = {"1", "000001", "00001", "0001", "001", "01"};
        for (int s = 0; s < 6; s++) {
            is("sign(" + s + ")", ring.sign(s), word(due[s]));
        }
        SuiteBench far = Kit.machine("", "aaaa-0001");
        is("the only REACHED one", far.sign(0), 0);
        is("not REACHED, ALIKE to it", far.sign(1), -2);
        is("not REACHED, though ALIKE to another one", far.sign(2), -2);
        is("not REACHED, not ALIKE", far.sign(3), word("0"));
        SuiteBench twins = Kit.machine("", "baac-0011");
        is("ALIKE to one that isn't REACHED: a SIGN still", Kit.machine("", "bab-010").sign(1), word("0"));
        is("ALIKE to one that is REACHED", twins.sign(0), -2);
    }

    // "HEADS for n: .. the ACCESS of a REACHED STATE and 0 .. (n and 1) INPUTS behind it"; "Where n isn't told, it is extra"
    private void heads() {
        for (int extra = 0; extra < 3; extra++) {
            SuiteBench lone = Kit.machine("extra " + extra + ";", "ab-05", "ab-05");
            is("all WORDS of extra and 1", lone.suite(0, 0), 2 << extra);
            is("of SUITE 1, too", lone.suite(1, 0), 2 << extra);
            is("the most INPUTS", lone.suite(0, 2), extra + 1);
            is("the most INPUTS of SUITE 1", lone.suite(1, 2), extra + 1);
            is("in sum", lone.suite(1, 1), (2 << extra) * (extra + 1));
            is("the first", lone.test(0, 0), word("000".substring(2 - extra)));
            is("the last", lone.test(0, (2 << extra) - 1), word("111".substring(2 - extra)));
            is("behind the last", lone.test(0, 2 << extra), -2);
            SuiteBench chain = Kit.machine("extra " + extra + ";", CHAIN);
            is("behind the farthest STATE", chain.suite(0, 2), 5 + extra + 1 + 5);
        }
        is("not told: 0", Kit.machine("", "a-0", "a-0").suite(0, 2), 1);
        // Behind x one is in b, behind y in a: in SUITE 1 each has its own MARKS, y of c not being asked of a.
        SuiteBench own = Kit.machine("", "bca-010", "aaa-002");
        is("MARKS of a", own.mark(0, 0) * 10 + own.mark(0, 1), 12);
        is("MARKS of b", own.mark(1, 0) * 10 + own.mark(1, 1), 8);
        is("SUITE 0 has each SPLITTER", own.count(7), 2);
        SuiteBench ring = Kit.machine("", RING);
        // Behind xxxxxx one is in a, whose only MARK is y: of SUITE 0 it is followed by five SPLITTERS.
        is("SUITE 0 goes on to xxxx, y behind it", ring.suite(0, 2), 11);
        is("SUITE 1 doesn't: behind xxxxxy only xy at most", ring.suite(1, 2), 8);
    }

    // "(No WORD of these has more than 13 INPUTS.)"
    private void thirteenInputs() {
        SuiteBench chain = Kit.machine("extra 2;", CHAIN);
        // In SUITE 1 the HEAD of 8 leads to c, whose MARKS have 4 at most; that of 7 leads to b, whose MARKS have 5.
        for (int suite = 0; suite < 2; suite++) {
            is("one TEST", chain.suite(suite, 0), 1);
            is("INPUTS", chain.suite(suite, 1), 13 - suite);
            is("the most", chain.suite(suite, 2), 13 - suite);
            is("it", chain.test(suite, 0), word("0000000000000".substring(suite)));
            is("no other", chain.test(suite, 1), -2);
        }
        chain.twist(5, 0, 1, 1);
        is("the seventh OUTPUT on", chain.verdict(0, 2), 10);
        is("is 1 ahead of time", chain.verdict(0, 3), 1);
    }

    // "each WORD once, none with which another one of the same SUITE begins"
    private void eachTestOnce() {
        SuiteBench[] benches = {Kit.machine("extra 1;", RING), Kit.machine("extra 2;", "bca-010", "aaa-002"),
            Kit.machine("", "bcdefa-010000", "acbedf-000100", "fedcba-000001")};
        for (SuiteBench bench : benches) {
            for (int suite = 0; suite < 2; suite++) {
                int many = bench.suite(suite, 0);
                int sum = 0;
                for (int k = 0; k < many; k++) {
                    int test = bench.test(suite, k);
                    is("in the order of WORDS", test > (k > 0 ? bench.test(suite, k - 1) : 0), true);
                    sum += Integer.toString(test, 4).length();
                    boolean begins = false;
                    for (int other = k + 1; other < many; other++) {
                        for (int word = bench.test(suite, other); word > 0; word /= 4) {
                            begins |= word == test;
                        }
                    }
                    is("no other one begins with it", begins, false);
                }
                is("INPUTS in sum", bench.suite(suite, 1), sum);
                is("the last one has the most", bench.suite(suite, 2),
                    Integer.toString(bench.test(suite, many - 1), 4).length());
            }
        }
    }

    // "TOUR: .. as long as there is a WORD from where one stands whose last ARC isn't taken yet", "CHECK: as the TOUR, but .."
    private void walks() {
        for (int inputs = 1; inputs <= 3; inputs++) {
            String[] rows = {"a-0", "a-0", "a-0"};
            SuiteBench lone = Kit.machine("", java.util.Arrays.copyOf(rows, inputs));
            for (int what = 0; what < 2; what++) {
                for (int k = 0; k < inputs; k++) {
                    is("way(" + what + ", " + k + ")", lone.way(what, k), k);
                }
                is("way(" + what + ", " + inputs + ")", lone.way(what, inputs), -2);
                is("suite(" + (2 + what) + ", 1)", lone.suite(2 + what, 1), inputs);
            }
        }
        walk("TOUR of the ring", Kit.machine("", "bcdefa-000000"), 0, "000000");
        walk("a sink", Kit.machine("", "bb-01", "ab-00"), 0, "001");
        walk("what can't be come back to stays", Kit.machine("", "bb-00", "ab-00"), 0, "001");
        walk("back for what is left", Kit.machine("", "bb-00", "aa-00"), 0, "0011");
        // Behind x one is in b: its SIGN is x, and both lead to a, whose SIGN is x again.
        walk("TOUR of two", Kit.machine("", "ba-01"), 0, "00");
        walk("CHECK of two", Kit.machine("", "ba-01"), 1, "00");
        // By x to b, by x home, by y there; then x, y.
        walk("CHECK without SIGNS", Kit.machine("", "ba-00", "ab-00"), 1, "00101");
        // By x to b, whose SIGN y leads nowhere; x back to a, whose SIGN is y, too.
        walk("CHECK with SIGNS", Kit.machine("", "ba-00", "ab-12"), 1, "0101");
        walk("TOUR of the same", Kit.machine("", "ba-00", "ab-12"), 0, "00101");
    }

    private void walk(String name, SuiteBench bench, int what, String due) {
        for (int k = 0; k < due.length(); k++) {
            is(name + ": way(" + what + ", " + k + ")", bench.way(what, k), due.charAt(k) - '0');
        }
        is(name + ": behind the last", bench.way(what, due.length()), -2);
        is(name + ": INPUTS", bench.suite(2 + what, 1), due.length());
        is(name + ": the most INPUTS", bench.suite(2 + what, 2), due.length());
        is(name + ": by the Oracle", Oracle.of(bench).walk(what == 1).equals(due), true);
    }

    // "each as the only TEST (from STATE 0; without STATES there are no TESTS in any SUITE)"
    private void suitesWithoutBranches() {
        for (int suite = 2; suite < 4; suite++) {
            is("with STATES", Kit.bench("state a;").suite(suite, 0), 1);
            is("with STATES and INPUTS", Kit.machine("", RING).suite(suite, 0), 1);
            is("without STATES", Kit.bench("input x;").suite(suite, 0), 0);
            SuiteBench bench = Kit.machine("", RING);
            bench.twist(0, 0, 0, 9);
            is("it FAILS the only one", bench.verdict(suite, 0), 1);
            is("its number", bench.verdict(suite, 1), 0);
        }
    }

    // "2 the place of its first OUTPUT that isn't the MACHINE's (from 0 on), 3 this OUTPUT (-2 of 1 .. 3: it FAILS none)"
    private void firstFailure() {
        SuiteBench chain = Kit.machine("extra 2;", CHAIN);
        for (int suite = 0; suite < 4; suite++) {
            is("FAILS none: how many", chain.verdict(suite, 0), 0);
            for (int what = 1; what < 4; what++) {
                is("FAILS none: -2 of " + what, chain.verdict(suite, what), -2);
            }
        }
        chain.twist(0, 0, 1, 9);
        for (int suite = 0; suite < 4; suite++) {
            is("the first OUTPUT: how many", chain.verdict(suite, 0), 1);
            is("the first OUTPUT: number", chain.verdict(suite, 1), 0);
            is("the first OUTPUT: place", chain.verdict(suite, 2), 0);
            is("the first OUTPUT: which", chain.verdict(suite, 3), 9);
        }
        chain.mend(0, 0);
        chain.twist(5, 0, 0, 0);
        is("an OUTPUT 0 that should be 1: place", chain.verdict(0, 2), 5);
        is("an OUTPUT 0 that should be 1", chain.verdict(0, 3), 0);
        chain.undo();
        // Two turns of the ring: the last OUTPUT of the TEST is that of a third turn's first ARC.
        SuiteBench last = Kit.machine("", "aa-00");
        last.twist(0, 0, 1, 0);
        is("behind the last INPUT nothing is seen", last.verdict(0, 0), 0);
        last.twist(0, 0, 1, 1);
        is("the last OUTPUT is", last.verdict(0, 2), 0);
    }

    // "FIRST UNLIKE: the first WORD by which ANSWERS aren't the same", "EQUAL: .. by all WORDS, however long"
    private void firstUnlike() {
        SuiteBench far = Kit.machine("more g;more h;twist a x b 1;twist b x h 1;twist c x g 1;twist d x e 1;twist e x f 0;"
            + "twist f x c 1;twist g x a 1;twist h x d 1;", "ebdbfc-111011");
        is("of 13 INPUTS", far.witness(), word("0000000000000"));
        is("not EQUAL", far.isEqual(), false);
        is("the same by 12", far.answerBuilt(word("000000000000")), far.answer(0, word("000000000000")));
        is("not by 13", far.answerBuilt(word("0000000000000")) == far.answer(0, word("0000000000000")), false);
        // All eight PLACES in a ring, the last one alone is unlike.
        String ring = "more g;more h;twist a x b 0;twist b x c 0;twist c x d 0;twist d x e 0;twist e x f 0;twist f x g 0;"
            + "twist g x h 0;twist h x a ";
        is("eight PLACES, EQUAL", Kit.machine(ring + "0;", "bcdefa-000000").witness(), -2);
        is("eight PLACES, EQUAL", Kit.machine(ring + "0;", "bcdefa-000000").isEqual(), true);
        is("eight PLACES, unlike", Kit.machine(ring + "1;", "bcdefa-000000").witness(), word("00000000"));
        is("eight PLACES, unlike", Kit.machine(ring + "1;", "bcdefa-000000").isEqual(), false);
        SuiteBench first = Kit.machine("twist a x a 1;twist a y a 1;", "a-0", "a-0");
        is("the first of two", first.witness(), word("0"));
    }

    // "The least n 0 .. 2 so that the BUILT one FAILS a TEST of SUITE 0 or 1 for n; -2: by none"
    private void enough() {
        String[] steps = {"a x b ", "b x c ", "c x d ", "d x d "};
        for (int wrong = 0; wrong < 4; wrong++) {
            for (int extra = 0; extra < 3; extra++) {
                StringBuilder tail = new StringBuilder("extra " + extra + ";");
                for (int k = 0; k < 4; k++) {
                    tail.append("twist ").append(steps[k]).append(k == wrong ? 1 : 0).append(';');
                }
                SuiteBench bench = Kit.machine(tail.toString(), "abcd-0000");
                is("wrong at " + wrong + ": SUITE 0", bench.enough(0), wrong < 3 ? wrong : -2);
                is("wrong at " + wrong + ": SUITE 1", bench.enough(1), wrong < 3 ? wrong : -2);
                is("wrong at " + wrong + ": by extra " + extra, bench.verdict(0, 0), wrong <= extra ? 1 : 0);
                is("wrong at " + wrong + ": not EQUAL", bench.isEqual(), false);
            }
        }
        is("EQUAL: by none", Kit.machine("", RING).enough(0), -2);
    }
}
