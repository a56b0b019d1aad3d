/**
 * Benches where 8 INPUTS are just enough, and where 9 would be: such WORDS and TREES are seldom met by chance.
 * They were searched for; the Oracle says the same of each.
 */
public final class WithinTest {
    private final Kit kit = new Kit("WithinTest");

    public static void main(String[] args) {
        WithinTest test = new WithinTest();
        test.signs();
        test.trees();
        test.words();
        test.kit.end();
    }

    private void signs() {
        sign("SIGN of 8", 5, 22966, "adefcb-000000", "dfcbdf-000010", "accbff-100000");
        sign("SIGN of 9", 4, -2, "badce-00010", "accee-00000");
    }

    private void sign(String call, int state, int due, String... rows) {
        SuiteBench bench = Kit.machine("", rows);
        kit.is(call, bench.sign(state), due);
        Oracle oracle = Oracle.of(bench);
        kit.is(call + ", by the Oracle", Oracle.number(oracle.sign(state)), due);
        kit.is(call + ", its INPUTS", oracle.sign(state, 9).length(), due < 0 ? 9 : 8);
    }

    private void word(String call, int what, int due, String... rows) {
        SuiteBench bench = Kit.machine("", rows);
        kit.is(call, bench.word(what), due);
        Oracle oracle = Oracle.of(bench);
        kit.is(call + ", by the Oracle", Oracle.number(oracle.word(what)), due);
        kit.is(call + ", its INPUTS", oracle.word(what, 9).length(), due < 0 ? 9 : 8);
    }

    private void trees() {
        SuiteBench bench = Kit.machine("", "dceafb-000000", "abaded-010000", "acafdd-000000");
        Oracle oracle = Oracle.of(bench);
        kit.is("TREE of 8", bench.tree(39, 0), 8);
        kit.is("TREE of 8, by the Oracle", oracle.tree(39, 0), 8);
        kit.is("TREE of 8, the first INPUT", bench.tree(39, 1), 0);
        kit.is("TREE of 8, the first INPUT, by the Oracle", oracle.tree(39, 1), 0);
        kit.is("TREE of 9: INPUTS", oracle.tree(23, 0, 9), 9);
        kit.is("TREE of 9", bench.tree(23, 0), -2);
        kit.is("TREE of 9, by the Oracle", oracle.tree(23, 0), -2);
        kit.is("TREE of 9, the first INPUT", bench.tree(23, 1), -2);
        kit.is("TREE of 9, the first INPUT, by the Oracle", oracle.tree(23, 1), -2);
    }

    private void words() {
        word("PRESET of 8", 0, 23141, "decba-00011", "acdde-00000", "aacde-00000");
        word("PRESET of 9", 0, -2, "bfecad-000000", "abedef-001000");
        word("HOMING of 8", 1, 39270, "dbac-0000", "adbb-0000");
        word("HOMING of 9", 1, -2, "cdbea-00000", "dccae-00000");
        word("GATHER of 8", 2, 39535, "bdecfa-100101", "dbffce-001001", "afcecb-101000");
        word("GATHER of 9", 2, -2, "afcdbe-000001", "dbfaec-000000", "adeffc-010000");
    }
}
