/** Each call of a bench without STATES, and of one without INPUTS: what is empty has answers of its own. */
public final class EmptyTest {
    private final Kit kit = new Kit("EmptyTest");

    public static void main(String[] args) {
        EmptyTest test = new EmptyTest();
        test.withoutStates("a new object", new SuiteBench(), 0, 0);
        SuiteBench again = Kit.bench(Twins.TEXT);
        again.text(0);
        test.withoutStates("no LINES", again, 0, 0);
        test.withoutStates("INPUTS alone", Kit.bench("input x;input y;input z;extra 2;seed 3;"), 3, 2);
        test.withoutInputs("a STATE alone", Kit.bench("state a;"), 1, 0);
        test.withoutInputs("two STATES", Kit.bench("state a;state b;extra 2;seed 3;"), 2, 0);
        test.withoutInputs("six STATES, two of MORE", Kit.bench("state a;state b;state c;state d;state e;state f;"
            + "more g;more h;"), 6, 2);
        test.kit.end();
    }

    private void withoutStates(String name, SuiteBench bench, int inputs, int extra) {
        for (int what = -1; what < 3; what++) {
            kit.is(name + ": arc(0, 0, " + what + ")", Twins.arc(bench, 0, 0, what), Twins.NO_INDEX);
            kit.is(name + ": built(0, 0, " + what + ")", bench.built(0, 0, what), -1);
        }
        for (int word = 0; word < 3; word++) {
            kit.is(name + ": answer", bench.answer(0, word), -1);
            kit.is(name + ": leads", bench.leads(0, word), -1);
            kit.is(name + ": answerBuilt", bench.answerBuilt(word), -1);
            kit.is(name + ": ask", bench.ask(word), -1);
        }
        statesOfNone(name, bench);
        for (int suite = 0; suite < 4; suite++) {
            for (int what = 0; what < 5; what++) {
                kit.is(name + ": suite", bench.suite(suite, what), what < 3 ? 0 : -1);
                kit.is(name + ": verdict", bench.verdict(suite, what), what == 0 ? 0 : what < 4 ? -2 : -1);
                kit.is(name + ": mutants", bench.mutants(suite, what), what < 4 ? 0 : -2);
                kit.is(name + ": test", bench.test(suite, what), suite < 2 ? -2 : -1);
                kit.is(name + ": way", bench.way(suite, what), suite < 2 ? -2 : -1);
                kit.is(name + ": small", bench.small(1, suite, what), -1);
                kit.is(name + ": small", bench.small(2, suite, what), -1);
            }
            kit.is(name + ": enough", bench.enough(suite), suite < 2 ? -2 : -1);
            kit.is(name + ": covered", bench.covered(suite), suite < 2 ? 0 : -1);
        }
        kit.is(name + ": isEqual()", bench.isEqual(), true);
        kit.is(name + ": witness()", bench.witness(), -2);
        kit.is(name + ": suspects(1)", bench.suspects(1), 0);
        kit.is(name + ": suspect(0)", bench.suspect(0), -2);
        noMutants(name, bench);
        deeds(name, bench);
        int[] due = {0, inputs, 0, extra, 0, 0, 1, 0, 0, 0, 0, 0, 0, -1};
        for (int what = 0; what < due.length; what++) {
            kit.is(name + ": count(" + what + ")", bench.count(what), due[what]);
        }
    }

    private void statesOfNone(String name, SuiteBench bench) {
        for (int k = -1; k < 3; k++) {
            kit.is(name + ": access", bench.access(k), -1);
            kit.is(name + ": kind", bench.kind(k), -1);
            kit.is(name + ": separator", bench.separator(k, k), -1);
            kit.is(name + ": splitter", bench.splitter(k), -1);
            kit.is(name + ": mark", bench.mark(0, k), -1);
            kit.is(name + ": sign", bench.sign(k), -1);
            kit.is(name + ": word", bench.word(k), -1);
            kit.is(name + ": tree", bench.tree(k, 0), -1);
            kit.is(name + ": tree of two", bench.tree(3, k), -1);
        }
    }

    private void noMutants(String name, SuiteBench bench) {
        for (int k = -1; k < 4; k++) {
            kit.is(name + ": mutant", bench.mutant(0, k), -1);
            kit.is(name + ": parts", bench.parts(k, k), -1);
            kit.is(name + ": mutate", bench.mutate(k), false);
            kit.is(name + ": chance", bench.chance(k, 1), -1);
            kit.is(name + ": chance", bench.chance(0, k), -1);
        }
        kit.is(name + ": suspects(0)", bench.suspects(0), 0);
        kit.is(name + ": suspects(2)", bench.suspects(2), -1);
        kit.is(name + ": suspect(-1)", bench.suspect(-1), -1);
        kit.is(name + ": next()", bench.next(), -2);
    }

    private void deeds(String name, SuiteBench bench) {
        int logged = bench.count(9);
        kit.is(name + ": twist", bench.twist(0, 0, 0, 0), false);
        kit.is(name + ": mend", bench.mend(0, 0), false);
        kit.is(name + ": undo()", bench.undo(), -1);
        kit.is(name + ": back()", bench.back(), -1);
        kit.is(name + ": keep()", bench.keep(), logged);
        kit.is(name + ": back() then", bench.back(), logged);
        kit.is(name + ": forget()", bench.forget(), logged);
        kit.is(name + ": forget() then", bench.forget(), 0);
    }

    private void withoutInputs(String name, SuiteBench bench, int states, int more) {
        for (int s = 0; s <= states + more; s++) {
            boolean there = s < states;
            kit.is(name + ": arc", Twins.arc(bench, s, 0, 0), Twins.NO_INDEX);
            kit.is(name + ": built", bench.built(s, 0, 0), -1);
            kit.is(name + ": answer without INPUTS", bench.answer(s, 0), there ? 0 : -1);
            kit.is(name + ": leads without INPUTS", bench.leads(s, 0), there ? s : -1);
            kit.is(name + ": access", bench.access(s), s == 0 ? 0 : there ? -2 : -1);
            kit.is(name + ": kind", bench.kind(s), there ? 0 : -1);
            kit.is(name + ": separator", bench.separator(0, s), there ? -2 : -1);
            kit.is(name + ": mark", bench.mark(s, 0), there ? 0 : -1);
            kit.is(name + ": no other", bench.mark(s, 1), there ? -2 : -1);
            // Behind STATE 0 none is told from it; STATE 0 is the only REACHED one.
            kit.is(name + ": sign", bench.sign(s), s == 0 ? 0 : there ? -2 : -1);
        }
        for (int word = 1; word < 4; word++) {
            kit.is(name + ": answer", bench.answer(0, word), -1);
            kit.is(name + ": leads", bench.leads(0, word), -1);
            kit.is(name + ": answerBuilt", bench.answerBuilt(word), -1);
            kit.is(name + ": ask", bench.ask(word), -1);
        }
        kit.is(name + ": answerBuilt without INPUTS", bench.answerBuilt(0), 0);
        kit.is(name + ": splitter(0)", bench.splitter(0), 0);
        kit.is(name + ": splitter(1)", bench.splitter(1), -2);
        suitesWithoutInputs(name, bench);
        for (int what = 0; what < 3; what++) {
            kit.is(name + ": word", bench.word(what), 0);
            kit.is(name + ": tree", bench.tree(3, what), states < 2 || what == 2 ? -1 : -2);
        }
        kit.is(name + ": isEqual()", bench.isEqual(), true);
        kit.is(name + ": witness()", bench.witness(), -2);
        noMutants(name, bench);
        kit.is(name + ": the MACHINE is suspected", bench.suspects(1), 1);
        kit.is(name + ": ask without INPUTS", bench.ask(0), 0);
        kit.is(name + ": the MACHINE is suspected still", bench.suspect(0), 1000);
        kit.is(name + ": it alone", bench.suspect(1), -2);
        deeds(name, bench);
        int[] due = {states, 0, states + more, bench.count(3), 1, 1, 1, 1, 0, 0, 0, 0, 1, -1};
        for (int what = 0; what < due.length; what++) {
            kit.is(name + ": count(" + what + ")", bench.count(what), due[what]);
        }
    }

    private void suitesWithoutInputs(String name, SuiteBench bench) {
        for (int suite = 0; suite < 4; suite++) {
            for (int what = 0; what < 5; what++) {
                kit.is(name + ": suite", bench.suite(suite, what), what == 0 ? 1 : what < 3 ? 0 : -1);
                kit.is(name + ": verdict", bench.verdict(suite, what), what == 0 ? 0 : what < 4 ? -2 : -1);
                kit.is(name + ": mutants", bench.mutants(suite, what), what < 4 ? 0 : -2);
                kit.is(name + ": test", bench.test(suite, what), suite > 1 ? -1 : what == 0 ? 0 : -2);
                kit.is(name + ": way", bench.way(suite, what), suite < 2 ? -2 : -1);
                kit.is(name + ": small", bench.small(1, suite, what), suite < 2 && what < 3 ? 1 : -1);
                kit.is(name + ": small", bench.small(2, suite, what), suite < 2 && what < 3 ? 1 : -1);
            }
            kit.is(name + ": enough", bench.enough(suite), suite < 2 ? -2 : -1);
            kit.is(name + ": covered", bench.covered(suite), suite < 2 ? 0 : -1);
        }
    }
}
