import java.lang.reflect.InvocationTargetException;
import java.lang.reflect.Method;
import java.util.ArrayList;
import java.util.Comparator;
import java.util.List;
import java.util.NoSuchElementException;
import java.util.Random;

/** Any arguments in any state: no call throws but arc, no call that only tells changes what is told later. */
public final class FuzzTest {
    private static final int[] EDGES = {0, 1, 2, 3, 4, 5, 6, 7, 8, 9, 10, 15, 16, 20, 21, 39, 40, 63, 64, 100, 252, 253,
        700, 701, 1000, 0x3fffffff, 0x40000000, 0x55555555, 0x7fffffff, 0x80000000, -1, -2, -3, -9, -100};
    private static final List<String> CHANGING = List.of("feed", "text", "ask", "forget", "twist", "mend", "mutate",
        "undo", "keep", "back");

    private final Kit kit = new Kit("FuzzTest");
    private final Random random = new Random(11);
    private final List<Method> calls = new ArrayList<>();

    public static void main(String[] args) throws IllegalAccessException {
        FuzzTest test = new FuzzTest();
        for (Method method : SuiteBench.class.getDeclaredMethods()) {
            if (java.lang.reflect.Modifier.isPublic(method.getModifiers())) {
                test.calls.add(method);
            }
        }
        test.calls.sort(Comparator.comparing(Method::getName));
        int benches = args.length > 0 ? Integer.parseInt(args[0]) : 150;
        for (int k = 0; k < benches; k++) {
            test.tryBench();
        }
        test.kit.end();
    }

    private void tryBench() throws IllegalAccessException {
        SuiteBench bench = new SuiteBench();
        SuiteBench quiet = new SuiteBench();
        for (int k = 0; k < 512; k++) {
            if (random.nextInt(60) == 0) {
                String text = text();
                kit.is("text", Kit.text(bench, text), Kit.text(quiet, text));
            }
            Method method = calls.get(random.nextInt(calls.size()));
            Object[] given = new Object[method.getParameterCount()];
            for (int p = 0; p < given.length; p++) {
                given[p] = argument();
            }
            String got = answer(method, bench, given);
            kit.is(method.getName() + " throws", got.startsWith("thrown"), false);
            // The quiet one is only changed and seldom asked: what is asked in between must not be seen.
            if (CHANGING.contains(method.getName()) || random.nextInt(8) == 0) {
                String due = answer(method, quiet, given);
                kit.is(method.getName() + " " + java.util.Arrays.toString(given) + " is " + got + ", by the quiet one "
                    + due, got.equals(due), true);
            }
        }
    }

    private int argument() {
        switch (random.nextInt(4)) {
            case 0:
                return EDGES[random.nextInt(EDGES.length)];
            case 1:
                return random.nextInt();
            default:
                return random.nextInt(7) - 1;
        }
    }

    private static String answer(Method method, SuiteBench bench, Object[] given) throws IllegalAccessException {
        try {
            return String.valueOf(method.invoke(bench, given));
        } catch (InvocationTargetException e) {
            Throwable cause = e.getCause();
            boolean due = method.getName().equals("arc")
                && (cause.getClass() == IndexOutOfBoundsException.class || cause.getClass() == NoSuchElementException.class);
            return (due ? "due " : "thrown ") + cause;
        }
    }

    private String text() {
        StringBuilder text = new StringBuilder();
        int states = random.nextInt(7);
        int inputs = random.nextInt(4);
        for (int s = 0; s < states; s++) {
            text.append("state ").append((char) ('a' + s)).append(';');
        }
        for (int i = 0; i < inputs; i++) {
            text.append("input ").append((char) ('x' + i)).append(';');
        }
        text.append(states > 0 && random.nextBoolean() ? "more q;more r;" : "");
        for (int s = 0; s < states; s++) {
            for (int i = 0; i < inputs; i++) {
                text.append("arc ").append((char) ('a' + s)).append(' ').append((char) ('x' + i)).append(' ');
                text.append((char) ('a' + random.nextInt(states))).append(' ').append(random.nextInt(3)).append(';');
            }
        }
        return text.append("extra ").append(random.nextInt(3)).append(';').toString();
    }
}
