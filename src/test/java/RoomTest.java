import java.lang.management.ManagementFactory;

/** All calls of one run live in one room: the constructor makes the rows, and calls make (nearly) nothing. */
public final class RoomTest {
    private static final String TEXT = "state a;state b;state c;state d;state e;state f;input x;input y;input z;more g;"
        + "arc a x b 0;arc a y c 1;arc b x c 0;arc b z d 1;arc c x d 0;arc d x e 0;arc e x f 0;arc e y a 0;arc f x a 9;"
        + "twist f x g 9;extra 2;";

    public static void main(String[] args) {
        Kit kit = new Kit("RoomTest");
        com.sun.management.ThreadMXBean meter = (com.sun.management.ThreadMXBean) ManagementFactory.getThreadMXBean();
        run(new SuiteBench(), 1);
        long self = Thread.currentThread().getId();
        long before = meter.getThreadAllocatedBytes(self);
        SuiteBench bench = new SuiteBench();
        long made = meter.getThreadAllocatedBytes(self) - before;
        kit.is("bytes of a new object, " + made + ", are few", made < 800_000, true);
        before = meter.getThreadAllocatedBytes(self);
        run(bench, 20);
        made = meter.getThreadAllocatedBytes(self) - before;
        kit.is("bytes of some 900 calls, " + made + ", are few", made < 200_000, true);
        kit.end();
    }

    private static int run(SuiteBench bench, int times) {
        int sum = 0;
        for (int k = 0; k < times; k++) {
            sum += Kit.text(bench, TEXT);
            for (int suite = 0; suite < 4; suite++) {
                sum += bench.suite(suite, 1) + bench.verdict(suite, 3) + bench.mutants(suite, 4);
                sum += bench.covered(suite) + bench.enough(suite) + bench.small(2, suite, 1) + bench.test(suite, 0);
            }
            sum += bench.way(1, 1) + bench.witness() + bench.tree(63, 0) + bench.word(0) + bench.word(1) + bench.word(2);
            sum += (int) bench.ask(1) + bench.suspects(0) + bench.suspect(3) + bench.next() + bench.chance(1, 15);
            sum += bench.parts(0, 1) + (bench.twist(0, 0, 0, 0) ? 1 : 0) + (bench.mutate(1) ? 1 : 0) + bench.keep();
            sum += bench.back() + bench.undo() + bench.count(12) + bench.sign(3) + (bench.mend(0, 0) ? 1 : 0);
        }
        return sum;
    }
}
