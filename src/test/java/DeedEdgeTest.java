import java.util.ArrayList;
import java.util.List;

/**
 * Twisting, mending, mutating, undoing, IMAGES, counts (==== 4, promises 37 to 43), and the order in which NONE, -2, -3
 * and the exceptions go: each sentence that names an edge, tried on both of its sides.
 */
public final class DeedEdgeTest {
    private final Kit kit = new Kit("DeedEdgeTest");

    public static void main(String[] args) {
        DeedEdgeTest test = new DeedEdgeTest();
        test.twentyAtMost();
        test.twentyOfAllSorts();
        test.roundAndRound();
        test.nothingToUndo();
        test.logStays();
        test.twisting();
        test.mending();
        test.mutating();
        test.images();
        test.imageOfTheLog();
        test.imageOfTheText();
        test.arcsUnlike();
        test.placesReached();
        test.noneGoesFirst();
        test.lastCall();
        test.kit.end();
    }

    private void is(String call, long got, long due) {
        kit.is(call, got, due);
    }

    private void is(String call, boolean got, boolean due) {
        kit.is(call, got, due);
    }

    // "can be undone, the latest first (20 at most)"
    private void twentyAtMost() {
        for (int deeds = 0; deeds <= 45; deeds++) {
            SuiteBench bench = Kit.machine("", "a-0", "a-0");
            for (int k = 1; k <= deeds; k++) {
                is("twist no. " + k, bench.twist(0, 0, 0, k % 10), true);
                is("one that is refused", bench.twist(0, 5, 0, 0), false);
                is("can be undone", bench.count(10), Math.min(k, 20));
            }
            int most = Math.min(deeds, 20);
            for (int k = 1; k <= most; k++) {
                is("undo no. " + k + " of " + deeds, bench.undo(), most - k);
                is("as it was", bench.built(0, 0, 1), (deeds - k) % 10);
            }
            int left = bench.built(0, 0, 1);
            is("no more of " + deeds, bench.undo(), -1);
            is("and nothing changes", bench.built(0, 0, 1), left);
            is("what is left", left, (deeds - most) % 10);
            is("count(10)", bench.count(10), 0);
        }
    }

    /** Twenty deeds, and a twenty-first one of each sort: it is done, and the first one can't be undone any more. */
    private void twentyOfAllSorts() {
        for (int sort = 0; sort < 3; sort++) {
            SuiteBench bench = Kit.machine("more m;", "ab-00");
            bench.twist(1, 0, 2, 7);
            for (int k = 1; k < 20; k++) {
                bench.twist(0, 0, 0, 5);
            }
            is("refused: it doesn't count", bench.twist(0, 0, 3, 0) || bench.mend(0, 1) || bench.mutate(2), false);
            is("twenty", bench.count(10), 20);
            is("the twenty-first", sort == 0 ? bench.twist(0, 0, 0, 6) : sort == 1 ? bench.mend(0, 0) : bench.mutate(0), true);
            is("twenty still", bench.count(10), 20);
            is("it is done", bench.built(0, 0, 1), sort == 0 ? 6 : 0);
            is("it is undone", bench.undo(), 19);
            is("as it was", bench.built(0, 0, 1), 5);
            for (int k = 18; k >= 0; k--) {
                is("undo()", bench.undo(), k);
            }
            is("undo() of none", bench.undo(), -1);
            is("the first deed stays", bench.built(1, 0, 0) * 10 + bench.built(1, 0, 1), 27);
            is("the second doesn't", bench.built(0, 0, 1), 0);
        }
    }

    /** Deeds and undoing by turns, against a plain list. */
    private void roundAndRound() {
        SuiteBench bench = Kit.machine("", "a-0");
        List<Integer> past = new ArrayList<>();
        int now = 0;
        int[] turns = {15, -10, 12, -3, 9, -20, -1, 21, -19, 5, -7};
        for (int turn : turns) {
            for (int k = 0; k < Math.abs(turn); k++) {
                if (turn > 0) {
                    past.add(now);
                    if (past.size() > 20) {
                        past.remove(0);
                    }
                    now = (now + 3) % 10;
                    is("twist", bench.twist(0, 0, 0, now), true);
                } else {
                    is("undo()", bench.undo(), past.size() - 1);
                    now = past.isEmpty() ? now : past.remove(past.size() - 1);
                }
                is("built", bench.built(0, 0, 1), now);
                is("count(10)", bench.count(10), past.size());
            }
        }
    }

    // "how many are left; NONE: none."
    private void nothingToUndo() {
        is("a new object", new SuiteBench().undo(), -1);
        SuiteBench bench = Twins.used();
        for (int k = Twins.UNDONE - 1; k >= 0; k--) {
            is("undo()", bench.undo(), k);
        }
        bench.ask(1);
        int[] ahead = row(bench);
        is("undo() of none", bench.undo(), -1);
        is("again", bench.undo(), -1);
        same("nothing changes", row(bench), ahead);
        is("the IMAGE stays", bench.back(), 1);
        is("the TAPE stays", bench.feed(0, 0, 0, 0, 0), 40);
    }

    private static int[] row(SuiteBench bench) {
        int[] row = new int[64];
        int k = 0;
        for (int p = 0; p < 8; p++) {
            for (int i = 0; i < 3; i++) {
                row[k] = bench.built(p, i, 0) * 10 + bench.built(p, i, 1);
                k++;
            }
        }
        for (int what = 0; what < 13; what++) {
            row[k] = bench.count(what);
            k++;
        }
        row[k] = bench.suspects(0) * 10 + bench.suspects(1);
        return row;
    }

    private void same(String name, int[] got, int[] due) {
        for (int k = 0; k < due.length; k++) {
            is(name + ", row " + k, got[k], due[k]);
        }
    }

    // "the BUILT one is as it was; THE LOG stays"
    private void logStays() {
        SuiteBench bench = Kit.machine("", "a-0");
        bench.twist(0, 0, 0, 1);
        bench.ask(1);
        bench.mend(0, 0);
        bench.ask(1);
        is("undo()", bench.undo(), 1);
        is("THE LOG stays", bench.count(9), 2);
        is("undo()", bench.undo(), 0);
        is("THE LOG stays", bench.count(9), 2);
        is("with its ANSWERS", bench.suspects(0) + bench.suspects(1), 0);
        bench.forget();
        bench.twist(0, 0, 0, 1);
        bench.ask(1);
        bench.undo();
        is("who answered so", bench.suspect(0), 0);
        is("is not the one that is there now", bench.isEqual(), true);
        bench.twist(0, 0, 0, 1);
        bench.forget();
        is("forgetting can't be undone", bench.undo(), 0);
        is("THE LOG is empty still", bench.count(9), 0);
    }

    // "The BUILT one's ARC goes to a PLACE with an OUTPUT 0 .. 9: true; false: no such ones."
    private void twisting() {
        String tail = "more g;more h;";
        for (int place = 0; place < 8; place++) {
            SuiteBench bench = Kit.machine(tail, "abcdef-000000", "abcdef-000000", "abcdef-000000");
            is("to the last PLACE", bench.twist(place, 2, 7, 9), true);
            is("next", bench.built(place, 2, 0), 7);
            is("OUTPUT", bench.built(place, 2, 1), 9);
            is("the ARC beside it stays", bench.built(place, 1, 0) * 10 + bench.built(place, 1, 1), place * 10);
            is("to the first PLACE", bench.twist(place, 0, 0, 0), true);
            is("next", bench.built(place, 0, 0), 0);
            int[] ahead = row(bench);
            int[][] wrong = {{8, 0, 0, 0}, {-1, 0, 0, 0}, {place, 3, 0, 0}, {place, -1, 0, 0}, {place, 0, 8, 0},
                {place, 0, -1, 0}, {place, 0, 0, 10}, {place, 0, 0, -1}};
            for (int[] arc : wrong) {
                is("twist of none", bench.twist(arc[0], arc[1], arc[2], arc[3]), false);
            }
            same("nothing changes", row(bench), ahead);
        }
        SuiteBench still = Kit.machine("", "a-0");
        is("as it is already", still.twist(0, 0, 0, 0), true);
        is("that can be undone, too", still.count(10), 1);
        is("EQUAL still", still.isEqual(), true);
        is("without MORE there is no other PLACE", still.twist(0, 0, 1, 0), false);
    }

    // "The BUILT one's ARC is the MACHINE's (of MORE to itself, OUTPUT 0): true; false: no such ones."
    private void mending() {
        SuiteBench bench = Kit.machine("more g;more h;twist a x h 1;twist g x a 2;twist h x a 3;twist h z a 4;",
            "bcdefa-999999", "abcdef-000000", "abcdef-000005");
        is("mend of a STATE", bench.mend(0, 0), true);
        is("as the MACHINE's", bench.built(0, 0, 0) * 10 + bench.built(0, 0, 1), 19);
        is("mend of the last of MORE", bench.mend(7, 0), true);
        is("to itself", bench.built(7, 0, 0) * 10 + bench.built(7, 0, 1), 70);
        is("its other ARC stays", bench.built(7, 2, 0) * 10 + bench.built(7, 2, 1), 4);
        is("mend of it", bench.mend(7, 2), true);
        is("to itself, too", bench.built(7, 2, 0) * 10 + bench.built(7, 2, 1), 70);
        is("of the first of MORE", bench.built(6, 0, 0) * 10 + bench.built(6, 0, 1), 2);
        is("mend of it", bench.mend(6, 0), true);
        is("to itself, too", bench.built(6, 0, 0) * 10 + bench.built(6, 0, 1), 60);
        is("of what isn't twisted", bench.mend(5, 2), true);
        is("as it was", bench.built(5, 2, 0) * 10 + bench.built(5, 2, 1), 55);
        is("all can be undone", bench.count(10), 5);
        is("none is unlike", bench.count(11), 0);
        int[] ahead = row(bench);
        is("mend of none", bench.mend(8, 0) || bench.mend(-1, 0) || bench.mend(0, 3) || bench.mend(0, -1), false);
        same("nothing changes", row(bench), ahead);
        bench.undo();
        bench.undo();
        is("it is undone", bench.built(6, 0, 0) * 10 + bench.built(6, 0, 1), 2);
    }

    // "The BUILT one is a MUTANT, ARCS of MORE to themselves, OUTPUT 0: true; false: no such one."
    private void mutating() {
        SuiteBench bench = Kit.machine("more m;", "ba-01");
        int many = bench.count(8);
        for (int k = 0; k < many; k++) {
            bench.twist(2, 0, 0, 5);
            bench.twist(0, 0, 2, 4);
            bench.twist(1, 0, 2, 4);
            int[] ahead = row(bench);
            is("mutate(" + k + ")", bench.mutate(k), true);
            is("one ARC is unlike", bench.count(11), 1);
            is("next", bench.built(bench.mutant(k, 0), 0, 0), bench.mutant(k, 2));
            is("OUTPUT", bench.built(bench.mutant(k, 0), 0, 1), bench.mutant(k, 3));
            is("of MORE to itself", bench.built(2, 0, 0) * 10 + bench.built(2, 0, 1), 20);
            is("undo()", bench.undo() >= 0, true);
            same("as it was", row(bench), ahead);
            is("none behind the last", bench.mutate(many), false);
            is("none below 0", bench.mutate(-1), false);
            same("nothing changes", row(bench), ahead);
        }
    }

    // "An IMAGE is kept (in place of one ahead)"; "nothing to undo then; the IMAGE stays"; "NONE: there is none"
    private void images() {
        SuiteBench bench = Kit.machine("more m;", "ba-01");
        bench.twist(0, 0, 2, 4);
        int[] ahead = row(bench);
        is("back() without an IMAGE", bench.back(), -1);
        same("nothing changes", row(bench), ahead);
        is("keep()", bench.keep(), 0);
        same("by keep() neither", row(bench), ahead);
        is("undo() goes on behind keep()", bench.undo(), 0);
        bench.twist(1, 0, 2, 9);
        is("back()", bench.back(), 0);
        ahead[24 + 10] = 0;
        same("as in the IMAGE, with nothing to undo", row(bench), ahead);
        is("undo()", bench.undo(), -1);
        bench.twist(2, 0, 1, 1);
        is("a deed behind back() can be undone", bench.count(10), 1);
        is("back() again", bench.back(), 0);
        same("the IMAGE stays", row(bench), ahead);
        bench.mutate(0);
        bench.keep();
        bench.mend(0, 0);
        is("back() to the later one", bench.back(), 0);
        is("the one ahead is gone", bench.built(0, 0, 0) * 10 + bench.built(0, 0, 1), 0);
        for (int k = 0; k < 25; k++) {
            bench.twist(0, 0, 0, k % 10);
        }
        bench.back();
        is("twenty can't be undone either", bench.undo(), -1);
    }

    // "how many are in THE LOG" of keep() and back()
    private void imageOfTheLog() {
        for (int logged = 0; logged <= 20; logged++) {
            SuiteBench bench = Kit.machine("", "a-0", "a-0");
            for (int k = 0; k < logged; k++) {
                bench.ask(1);
            }
            is("keep() of " + logged, bench.keep(), logged);
            is("THE LOG stays", bench.count(9), logged);
            bench.twist(0, 0, 0, 1);
            int asked = bench.ask(1) == 1 ? 1 : 0;
            is("ask behind " + logged, asked, logged < 20 ? 1 : 0);
            is("suspects(1) then", bench.suspects(1), logged < 20 ? 0 : 1);
            is("back() to " + logged, bench.back(), logged);
            is("THE LOG as in the IMAGE", bench.count(9), logged);
            is("suspects(1) as in the IMAGE", bench.suspects(1), 1);
            is("suspects(0) as in the IMAGE", bench.suspects(0), logged == 0 ? 2 : 1);
            bench.forget();
            is("all are suspected", bench.suspects(0), 2);
            is("back() behind forget()", bench.back(), logged);
            is("forget()", bench.forget(), logged);
        }
    }

    /** A TEXT ends the IMAGE; a FAULT, or -2, does not. */
    private void imageOfTheText() {
        SuiteBench bench = Kit.machine("", "a-0");
        bench.keep();
        Kit.text(bench, "state a;state a;");
        is("a FAULT", bench.back(), 0);
        bench.text(1);
        is("-2", bench.back(), 0);
        Kit.text(bench, "state a;");
        is("a TEXT", bench.back(), -1);
        bench.keep();
        is("another one", bench.back(), 0);
        bench.text(0);
        is("a TEXT without LINES", bench.back(), -1);
    }

    // "11 ARCS of the BUILT one that aren't the MACHINE's (of MORE to themselves, OUTPUT 0)"
    private void arcsUnlike() {
        SuiteBench bench = Kit.machine("more g;more h;", "abcdef-000000", "abcdef-000000", "abcdef-000000");
        int unlike = 0;
        for (int p = 0; p < 8; p++) {
            for (int i = 0; i < 3; i++) {
                is("count(11)", bench.count(11), unlike);
                bench.twist(p, i, p, 0);
                is("twisted as it is", bench.count(11), unlike);
                bench.twist(p, i, p, 1);
                is("by the OUTPUT", bench.count(11), unlike + 1);
                bench.twist(p, i, 7 - p, 0);
                is("by the next", bench.count(11), unlike + 1);
                bench.twist(p, i, 7 - p, 9);
                is("by both, once", bench.count(11), unlike + 1);
                unlike++;
            }
        }
        is("all 24", bench.count(11), 24);
    }

    // "12 PLACES to which some WORD leads in the BUILT one"
    private void placesReached() {
        for (int last = 0; last < 8; last++) {
            SuiteBench bench = Kit.machine("more g;more h;", "abcdef-000000");
            // From the last one ahead to the first one: who is far off comes late.
            for (int p = last; p > 0; p--) {
                bench.twist(p - 1, 0, p, 0);
            }
            is("PLACES up to " + last, bench.count(12), last + 1);
            is("REACHED ones are the MACHINE's", bench.count(4), 1);
            bench.twist(last, 0, 0, 0);
            is("home again", bench.count(12), last + 1);
        }
        SuiteBench turned = Kit.machine("more g;more h;twist a x h 0;twist h x g 0;twist g x f 0;twist f x e 0;twist e x d 0;"
            + "twist d x c 0;twist c x b 0;", "abcdef-000000");
        is("in the other order", turned.count(12), 8);
        turned.mutate(0);
        is("of the MUTANT that goes to b", turned.count(12), 2);
    }

    // "Of several answers that hold NONE goes first, then -2, then -3; IndexOutOfBoundsException ahead of .."
    private void noneGoesFirst() {
        // All that can be -2 is -2 here: ALIKE STATES, an EQUAL BUILT one, no SUSPECTS.
        SuiteBench bench = Kit.machine("", "ba-00");
        bench.ask(1);
        bench.twist(0, 0, 0, 1);
        bench.ask(1);
        bench.undo();
        for (int k = 2; k < 20; k++) {
            bench.ask(1);
        }
        long[] twos = {bench.separator(0, 1), bench.splitter(1), bench.mark(0, 1), bench.sign(0), bench.test(0, 99),
            bench.way(0, 99), bench.verdict(0, 1), bench.verdict(1, 2), bench.verdict(2, 3), bench.witness(),
            bench.enough(0), bench.parts(0, 0), bench.tree(3, 0), bench.word(0), bench.word(1), bench.word(2),
            bench.suspect(0), bench.next()};
        for (int k = 0; k < twos.length; k++) {
            is("-2, no. " + k, twos[k], -2);
        }
        is("-3", bench.ask(1), -3);
        long[] ones = {bench.separator(0, 2), bench.separator(2, 2), bench.separator(-1, -1), bench.splitter(-1),
            bench.mark(2, 99), bench.mark(0, -1), bench.mark(-1, 1), bench.sign(2), bench.test(2, 99), bench.test(0, -1),
            bench.way(2, 99), bench.way(0, -1), bench.verdict(4, 1), bench.verdict(0, 4), bench.verdict(-1, 2),
            bench.verdict(0, -1), bench.mutants(4, 4), bench.mutants(-1, 4), bench.enough(2), bench.enough(-1),
            bench.parts(99, 99), bench.parts(-1, -1), bench.parts(0, 99), bench.tree(3, 2), bench.tree(3, -1), bench.tree(7, 0),
            bench.tree(1, 0), bench.word(3), bench.word(-1), bench.suspect(-1), bench.ask(2), bench.ask(-1)};
        for (int k = 0; k < ones.length; k++) {
            is("NONE, no. " + k, ones[k], -1);
        }
        is("both exceptions", Twins.arc(bench, 2, 1, 2), Twins.NO_INDEX);
        is("of the STATE", Twins.arc(bench, 2, 0, 2), Twins.NO_INDEX);
        is("of the INPUT", Twins.arc(bench, 0, 1, -1), Twins.NO_INDEX);
        is("of what", Twins.arc(bench, 1, 0, 2), Twins.NO_ELEMENT);
        is("neither", Twins.arc(bench, 1, 0, 1), 0);
    }

    // "An object is used for at most 512 calls after it has been made"
    private void lastCall() {
        SuiteBench bench = new SuiteBench();
        bench.feed(0x73746174, 0x6520613b, 0x696e7075, 0x7420783b, 0x20202020);
        bench.text(16);
        for (int call = 3; call <= 510; call++) {
            is("call " + call, bench.twist(0, 0, 0, call % 10), true);
        }
        is("call 511", bench.undo(), 19);
        is("call 512", bench.built(0, 0, 1), 9);
    }
}
