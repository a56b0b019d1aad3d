/**
 * Benches where 8 INPUTS are just enough, and where 9 would be: such WORDS and TREES are seldom met by chance.
 * They were searched for; the Oracle says the same of each.
 */
public final class WithinTest {
    private final Kit kit = new Kit("WithinTest");

    public static void main(String[] args) {
        WithinTest test = new WithinTest();
        test.signs();
        test.trees();
        test.words();
        test.kit.end();
    }

    private void signs() {
        sign("SIGN of 8", 5, 22966, "adefcb-000000", "dfcbdf-000010", "accbff-100000");
        sign("SIGN of 9", 4, -2, "badce-00010", "accee-00000");
    }

    private void sign(String call, int state, int due, String... rows) {
        SuiteBench bench = bench(rows);
        kit.is(call, bench.sign(state), due);
        kit.is(call + ", by the Oracle", Oracle.number(oracle(bench).sign(state)), due);
    }

    private void word(String call, int what, int due, String... rows) {
        SuiteBench bench = bench(rows);
        kit.is(call, bench.word(what), due);
        kit.is(call + ", by the Oracle", Oracle.number(oracle(bench).word(what)), due);
    }

    private void trees() {
        SuiteBench bench = bench("dceafb-000000", "abaded-010000", "acafdd-000000");
        Oracle oracle = oracle(bench);
        kit.is("TREE of 8", bench.tree(39, 0), 8);
        kit.is("TREE of 8, by the Oracle", oracle.tree(39, 0), 8);
        kit.is("TREE of 8, the first INPUT", bench.tree(39, 1), 0);
        kit.is("TREE of 8, the first INPUT, by the Oracle", oracle.tree(39, 1), 0);
        kit.is("TREE of 9", bench.tree(23, 0), -2);
        kit.is("TREE of 9, by the Oracle", oracle.tree(23, 0), -2);
        kit.is("TREE of 9, the first INPUT", bench.tree(23, 1), -2);
        kit.is("TREE of 9, the first INPUT, by the Oracle", oracle.tree(23, 1), -2);
    }

    private void words() {
        word("PRESET of 8", 0, 23141, "decba-00011", "acdde-00000", "aacde-00000");
        word("PRESET of 9", 0, -2, "bfecad-000000", "abedef-001000");
        word("HOMING of 8", 1, 39270, "dbac-0000", "adbb-0000");
        word("HOMING of 9", 1, -2, "cdbea-00000", "dccae-00000");
        word("GATHER of 8", 2, 39535, "bdecfa-100101", "dbffce-001001", "afcecb-101000");
        word("GATHER of 9", 2, -2, "afcdbe-000001", "dbfaec-000000", "adeffc-010000");
    }

    /** ARCS by INPUTS: of each the next STATES in a row, and behind a dash the OUTPUTS in a row. */
    private static SuiteBench bench(String... rows) {
        int states = rows[0].indexOf('-');
        StringBuilder text = new StringBuilder();
        for (int s = 0; s < states; s++) {
            text.append("state ").append((char) ('a' + s)).append(';');
        }
        for (int i = 0; i < rows.length; i++) {
            text.append("input ").append((char) ('x' + i)).append(';');
        }
        for (int i = 0; i < rows.length; i++) {
            for (int s = 0; s < states; s++) {
                text.append("arc ").append((char) ('a' + s)).append(' ').append((char) ('x' + i)).append(' ');
                text.append(rows[i].charAt(s)).append(' ').append(rows[i].charAt(states + 1 + s)).append(';');
            }
        }
        return Kit.bench(text.toString());
    }

    /** The same bench for the Oracle. */
    private static Oracle oracle(SuiteBench bench) {
        Oracle.Box meant = new Oracle.Box(bench.count(0), bench.count(1));
        for (int s = 0; s < bench.count(0); s++) {
            for (int i = 0; i < bench.count(1); i++) {
                meant.to[s][i] = bench.arc(s, i, 0);
                meant.out[s][i] = bench.arc(s, i, 1);
            }
        }
        return new Oracle(bench.count(0), bench.count(1), 0, 0, 0, meant, meant.copy());
    }
}
