import java.util.ArrayList;
import java.util.List;

/**
 * A TEXT behind another one (promise 3: "the BUILT one as told, THE LOG empty, no IMAGE, nothing to undo"): nothing of
 * the one ahead is left, whatever was asked of it. And what a call tells doesn't depend on what was told ahead of it.
 */
public final class AgainTest {
    private static final String SIX = "state a;state b;state c;state d;state e;state f;input x;input y;input z;"
        + "more g;more h;arc a x b 0;arc b x c 0;arc c x d 0;arc d x e 0;arc e x f 0;arc f x a 1;arc a y c 1;"
        + "arc b y b 2;arc d z a 2;arc e z e 9;twist a z g 3;twist g x h 1;twist h y a 5;extra 2;seed 99999;";
    private static final String TWO = "state p;state q;input x;input u;arc p x q 1;arc q x p 0;arc q u q 1;twist p u p 1;"
        + "extra 1;seed 5;";
    // All ALIKE: each MUTANT of a next STATE is EQUAL.
    private static final String ALIKE = "state a;state b;state c;input x;arc a x b 3;arc b x c 3;arc c x a 3;";
    private static final String ONE = "state z;input w;";
    // Neither extra nor seed is told; by chance it is told apart by x alone.
    private static final String UNSOWN = "state a;input x;input y;input z;twist a x a 1;";
    private static final String NO_INPUTS = "state a;state b;more m;extra 1;";
    private static final String NO_STATES = "input x;input y;seed 3;";
    private static final String[] TEXTS = {SIX, TWO, ALIKE, ONE, UNSOWN, NO_INPUTS, NO_STATES, ""};

    private final Kit kit = new Kit("AgainTest");
    private final List<Twins.Call> calls = new ArrayList<>();

    public static void main(String[] args) {
        AgainTest test = new AgainTest();
        test.listCalls();
        test.oneTextBehindAnother();
        test.faultBetween();
        test.askedFirst();
        test.asWasDone();
        test.kit.end();
    }

    private void row(Twins.Row row, int from, int to) {
        for (int k = from; k <= to; k++) {
            int given = k;
            calls.add(bench -> row.at(bench, given));
        }
    }

    private void listCalls() {
        row((bench, k) -> bench.count(k), 0, 12);
        row((bench, k) -> bench.mutants(k % 2 * 2, k / 2), 0, 9);
        row((bench, k) -> bench.mutants(k % 2 * 2 + 1, k / 2), 2, 9);
        row((bench, k) -> bench.covered(k), 0, 1);
        row((bench, k) -> bench.small(1 + k / 4, k / 2 % 2, 1 + k % 2), 0, 7);
        row((bench, k) -> bench.next(), 0, 0);
        row((bench, k) -> bench.suspects(k), 0, 1);
        row((bench, k) -> bench.suspect(k), 0, 1);
        row((bench, k) -> bench.suite(k / 3, k % 3), 0, 11);
        row((bench, k) -> bench.verdict(k / 2, k % 2 * 2), 0, 7);
        row((bench, k) -> bench.enough(k), 0, 1);
        row((bench, k) -> bench.test(k / 3, k % 3), 0, 5);
        row((bench, k) -> bench.way(k % 2, k * 3), 0, 5);
        row((bench, k) -> bench.word(k), 0, 2);
        row((bench, k) -> bench.tree(3, k), 0, 1);
        row((bench, k) -> bench.tree(7, k), 0, 1);
        row((bench, k) -> bench.sign(k), 0, 2);
        row((bench, k) -> bench.mark(k % 3, k / 3), 0, 5);
        row((bench, k) -> bench.splitter(k), 0, 2);
        row((bench, k) -> bench.separator(0, k), 1, 2);
        row((bench, k) -> bench.access(k), 0, 2);
        row((bench, k) -> bench.kind(k), 0, 2);
        row((bench, k) -> bench.mutant(k, 3 - k), 0, 3);
        row((bench, k) -> bench.parts(0, k), 1, 3);
        row((bench, k) -> bench.chance(-1, k), 1, 3);
        row((bench, k) -> bench.witness(), 0, 0);
        row((bench, k) -> Twins.bit(bench.isEqual()), 0, 0);
        row((bench, k) -> bench.answer(k, 6), 0, 2);
        row((bench, k) -> bench.leads(k, 5), 0, 2);
        row((bench, k) -> bench.answerBuilt(k), 0, 6);
        row((bench, k) -> bench.built(k / 2, 0, k % 2), 0, 7);
        row((bench, k) -> Twins.arc(bench, k / 2, 0, k % 2), 0, 5);
        row((bench, k) -> bench.named(k << 25), 1, 8);
        row((bench, k) -> bench.named(k << 25), 16, 17);
        row((bench, k) -> bench.named(k << 25), 21, 26);
    }

    /** By a bench that has told nothing else, each call alone. */
    private long[] alone(String text, int deeds) {
        long[] due = new long[calls.size()];
        for (int k = 0; k < due.length; k++) {
            SuiteBench bench = Kit.bench(text);
            deeds(bench, deeds, false);
            due[k] = calls.get(k).on(bench);
        }
        return due;
    }

    private void tellAll(SuiteBench bench) {
        for (Twins.Call call : calls) {
            call.on(bench);
        }
    }

    /** Told more than once, twisted, asked and kept, with something to undo. */
    private SuiteBench usedUp(String text) {
        SuiteBench bench = Kit.bench(text);
        Kit.text(bench, text);
        Kit.text(bench, text);
        bench.ask(1);
        bench.twist(0, 0, 1, 1);
        bench.ask(5);
        bench.keep();
        bench.mutate(0);
        tellAll(bench);
        return bench;
    }

    private void oneTextBehindAnother() {
        for (String second : TEXTS) {
            long[] due = alone(second, 0);
            for (String first : TEXTS) {
                SuiteBench bench = usedUp(first);
                Kit.text(bench, second);
                for (int k = 0; k < due.length; k++) {
                    kit.is("call " + k + " of " + second + " behind " + first, calls.get(k).on(bench), due[k]);
                }
                SuiteBench turned = usedUp(first);
                Kit.text(turned, second);
                for (int k = due.length - 1; k >= 0; k--) {
                    kit.is("call " + k + " backwards, of " + second + " behind " + first, calls.get(k).on(turned), due[k]);
                }
                kit.is("no IMAGE of " + first, turned.back(), -1);
                kit.is("nothing to undo of " + first, turned.undo(), -1);
            }
        }
    }

    /** "NONE with a FAULT, all else stays": the FAULT is at the very end, when all but it has been read. */
    private void faultBetween() {
        for (String second : TEXTS) {
            long[] due = alone(second, 0);
            for (String first : new String[] {SIX, ONE}) {
                SuiteBench bench = Kit.bench(second);
                Kit.text(bench, first + "#");
                kit.is("a FAULT behind " + second, bench.fault(1), first.length());
                for (int k = 0; k < due.length; k++) {
                    kit.is("call " + k + " of " + second + " with a FAULT behind", calls.get(k).on(bench), due[k]);
                }
            }
        }
    }

    /** Each call the first one behind a new TEXT: what it needs of others it finds out anew. */
    private void askedFirst() {
        String[] pairs = {SIX, TWO, ALIKE, SIX, TWO, ALIKE, ALIKE, TWO};
        for (int pair = 0; pair < pairs.length; pair += 2) {
            long[] due = alone(pairs[pair + 1], 0);
            for (int k = 0; k < due.length; k++) {
                SuiteBench bench = Kit.bench(pairs[pair]);
                tellAll(bench);
                Kit.text(bench, pairs[pair + 1]);
                kit.is("call " + k + " first of all, of " + pairs[pair + 1], calls.get(k).on(bench), due[k]);
            }
        }
    }

    /** With all told in between, if so; the sum of calls stays below 512. */
    private void deeds(SuiteBench bench, int many, boolean telling) {
        for (int k = 0; k < many; k++) {
            deed(bench, k);
            if (telling && k == many - 2) {
                tellAll(bench);
            }
        }
    }

    private static void deed(SuiteBench bench, int k) {
        switch (k) {
            case 0 -> bench.ask(1);
            case 1 -> bench.keep();
            case 2 -> bench.twist(0, 0, 0, 4);
            case 3 -> bench.ask(1);
            case 4 -> bench.back();
            case 5 -> bench.mutate(0);
            case 6 -> bench.ask(5);
            case 7 -> bench.mend(0, 0);
            case 8 -> bench.undo();
            case 9 -> bench.forget();
            case 10 -> bench.ask(6);
            default -> bench.back();
        }
    }

    /** Each deed is seen at once by what was told just ahead of it. */
    private void asWasDone() {
        for (String text : new String[] {SIX, TWO, ALIKE, ONE}) {
            for (int many = 1; many <= 12; many++) {
                long[] due = alone(text, many);
                SuiteBench bench = Kit.bench(text);
                if (many == 1) {
                    tellAll(bench);
                }
                deeds(bench, many, true);
                for (int k = 0; k < due.length; k++) {
                    kit.is("call " + k + " behind " + many + " deeds, of " + text, calls.get(k).on(bench), due[k]);
                }
            }
        }
    }
}
