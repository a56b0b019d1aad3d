import java.util.ArrayList;
import java.util.List;
import java.util.NoSuchElementException;

/**
 * A bench that has been used, made anew for each call, and its twin, which went through the same calls: what is
 * refused must leave no trace by which the two could be told apart. No bench is asked more than 512 times.
 */
final class Twins {
    /** A call, what it answers as a number: true counts 1, false 0. */
    interface Call {
        long on(SuiteBench bench);
    }

    /** A call with one argument left open. */
    interface Row {
        long at(SuiteBench bench, int k);
    }

    static final long NO_INDEX = -101;
    static final long NO_ELEMENT = -102;

    /** a, b, c in a row by x, back to a by y but for c; the BUILT one goes on from c by y to m, and home by x. */
    static final String TEXT = "state a;state b;state c;input x;input y;more m;arc a x b 0;arc a y a 0;arc b x c 0;"
        + "arc b y a 0;arc c x c 1;extra 1;seed 7;twist c y m 0;twist m x a 3;";
    static final int STATES = 3;
    static final int INPUTS = 2;
    static final int PLACES = 4;
    static final int LOGGED = 2;
    static final int UNDONE = 4;

    private final Kit kit;

    Twins(Kit kit) {
        this.kit = kit;
    }

    static long bit(boolean answer) {
        return answer ? 1 : 0;
    }

    static long arc(SuiteBench bench, int state, int input, int what) {
        try {
            return bench.arc(state, input, what);
        } catch (IndexOutOfBoundsException e) {
            return NO_INDEX;
        } catch (NoSuchElementException e) {
            return NO_ELEMENT;
        }
    }

    /** Twisted, asked, kept, with a FAULT told and twenty bytes on the TAPE. */
    static SuiteBench used() {
        SuiteBench bench = Kit.bench(TEXT);
        bench.ask(1);
        bench.twist(0, 0, 3, 0);
        bench.keep();
        bench.ask(2);
        bench.mend(3, 0);
        bench.mutate(1);
        bench.twist(3, 1, 2, 9);
        Kit.text(bench, "state q;state q;");
        Kit.feed(bench, "input q;state r;");
        return bench;
    }

    /** What is refused answers so, and nothing has changed by it. */
    void refused(String name, Call call, long due) {
        SuiteBench asked = used();
        SuiteBench twin = used();
        kit.is(name, call.on(asked), due);
        same(name + ": what is told", told(asked), told(twin));
        for (int k = 0; k <= UNDONE; k++) {
            kit.is(name + ": undo() then", asked.undo(), twin.undo());
            same(name + ": the BUILT one then", built(asked), built(twin));
        }
        kit.is(name + ": back() then", asked.back(), twin.back());
        same(name + ": the BUILT one in the IMAGE", built(asked), built(twin));
        kit.is(name + ": the TAPE then", asked.feed(0x20202020, 0, 0, 0, 0), 40);
        kit.is(name + ": its bytes", asked.text(24), 2);
        kit.is(name + ": what they tell", asked.named(Kit.letters("r")), 0);
    }

    /** An argument from the least to the most: those aren't refused, all others are, and nothing changes by it. */
    void range(String name, Row row, int least, int most, long refusal) {
        for (int k : new int[] {least, most}) {
            long got = row.at(used(), k);
            kit.is(name + ", " + k + " of " + least + " .. " + most + " is not refused", got != refusal, true);
        }
        for (int k : new int[] {Integer.MIN_VALUE, least - 1, most + 1, Integer.MAX_VALUE}) {
            if (k < least || k > most) {
                refused(name + ", " + k + " of " + least + " .. " + most, bench -> row.at(bench, k), refusal);
            }
        }
    }

    /** A row of so many: -2 behind it, NONE ahead of it. */
    void row(String name, Row row, int many) {
        for (int k : new int[] {0, many - 1}) {
            if (k >= 0 && k < many) {
                kit.is(name + ", " + k + " of " + many + " is there", row.at(used(), k) >= 0, true);
            }
        }
        for (int k : new int[] {many, many + 1, Integer.MAX_VALUE}) {
            refused(name + ", " + k + " of " + many, bench -> row.at(bench, k), -2);
        }
        for (int k : new int[] {-1, -2, Integer.MIN_VALUE}) {
            refused(name + ", " + k + " of " + many, bench -> row.at(bench, k), -1);
        }
    }

    private void same(String name, List<Long> got, List<Long> due) {
        for (int k = 0; k < due.size(); k++) {
            if (!got.get(k).equals(due.get(k))) {
                kit.is(name + ", row " + k, got.get(k), due.get(k));
                return;
            }
        }
        kit.is(name, got.size(), due.size());
    }

    private static List<Long> built(SuiteBench bench) {
        List<Long> row = new ArrayList<>();
        for (int p = 0; p < PLACES; p++) {
            for (int i = 0; i < INPUTS; i++) {
                row.add((long) bench.built(p, i, 0));
                row.add((long) bench.built(p, i, 1));
            }
        }
        row.add((long) bench.count(9));
        row.add((long) bench.count(10));
        return row;
    }

    private static List<Long> told(SuiteBench bench) {
        List<Long> row = built(bench);
        for (int what = 0; what < 13; what++) {
            row.add((long) bench.count(what));
        }
        row.add((long) bench.fault(0));
        row.add((long) bench.fault(1));
        tellStates(bench, row);
        tellSuites(bench, row);
        for (int k = 0; k < 4; k++) {
            row.add((long) bench.suspect(k));
            row.add((long) bench.mutant(k, 2));
            row.add((long) bench.word(k % 3));
            row.add((long) bench.parts(k, k + 1));
        }
        row.add((long) bench.suspects(0));
        row.add((long) bench.suspects(1));
        row.add((long) bench.next());
        row.add((long) bench.chance(-1, 15));
        row.add(bit(bench.isEqual()));
        row.add((long) bench.witness());
        row.add(bench.answerBuilt(Kit.word("00110101")));
        row.add((long) bench.tree(7, 0));
        row.add((long) bench.tree(6, 1));
        return row;
    }

    private static void tellStates(SuiteBench bench, List<Long> row) {
        for (String name : new String[] {"a", "b", "c", "m", "x", "y", "q", "r"}) {
            row.add((long) bench.named(Kit.letters(name)));
        }
        for (int s = 0; s < STATES; s++) {
            row.add(bench.answer(s, Kit.word("0101")));
            row.add((long) bench.leads(s, Kit.word("0")));
            row.add((long) bench.leads(s, Kit.word("1")));
            row.add((long) bench.access(s));
            row.add((long) bench.kind(s));
            row.add((long) bench.separator(s, (s + 1) % STATES));
            row.add((long) bench.splitter(s));
            row.add((long) bench.mark(s, 0));
            row.add((long) bench.mark(s, 1));
            row.add((long) bench.sign(s));
        }
    }

    private static void tellSuites(SuiteBench bench, List<Long> row) {
        for (int suite = 0; suite < 4; suite++) {
            row.add((long) bench.suite(suite, 0));
            row.add((long) bench.suite(suite, 1));
            row.add((long) bench.verdict(suite, 0));
            row.add((long) bench.verdict(suite, 2));
            row.add((long) bench.mutants(suite, 2));
            row.add((long) bench.mutants(suite, 4));
        }
        for (int suite = 0; suite < 2; suite++) {
            row.add((long) bench.enough(suite));
            row.add((long) bench.covered(suite));
            row.add((long) bench.small(2, suite, 1));
            for (int k = 0; k < 5; k++) {
                row.add((long) bench.test(suite, k));
                row.add((long) bench.way(suite, k));
            }
        }
    }
}
