/** What all tests use: a TEXT comes into a bench, an answer is held against the one that is due. */
final class Kit {
    private final String name;
    private int calls;
    private int wrong;

    Kit(String name) {
        this.name = name;
    }

    void is(String call, long got, long due) {
        calls++;
        if (got != due) {
            wrong++;
            if (wrong <= 50) {
                System.out.println(name + ": " + call + " answered " + got + ", due is " + due);
            }
        }
    }

    void is(String call, boolean got, boolean due) {
        is(call, got ? 1 : 0, due ? 1 : 0);
    }

    int wrong() {
        return wrong;
    }

    void end() {
        System.out.println(name + ": " + calls + " answers, " + wrong + " not as due");
        if (wrong != 0 || calls == 0) {
            System.exit(1);
        }
    }

    static int feed(SuiteBench bench, String text) {
        int taped = 0;
        for (int from = 0; from < text.length(); from += 20) {
            int[] five = new int[5];
            for (int k = 0; k < 20; k++) {
                int sign = from + k < text.length() ? text.charAt(from + k) : ' ';
                five[k / 4] = five[k / 4] << 8 | sign;
            }
            taped = bench.feed(five[0], five[1], five[2], five[3], five[4]);
        }
        return taped;
    }

    static int text(SuiteBench bench, String text) {
        feed(bench, text);
        return bench.text(text.length());
    }

    static SuiteBench bench(String text) {
        SuiteBench bench = new SuiteBench();
        if (text(bench, text) < 0) {
            throw new IllegalArgumentException("fault " + bench.fault(0) + " at " + bench.fault(1) + " of " + text);
        }
        return bench;
    }

    /**
     * A bench by rows, one for each INPUT: of each STATE the next one, and behind a dash the OUTPUTS. STATES are a, b ..,
     * INPUTS x, y, z; the tail stands behind them.
     */
    static SuiteBench machine(String tail, String... rows) {
        int states = rows[0].indexOf('-');
        StringBuilder text = new StringBuilder();
        for (int s = 0; s < states; s++) {
            text.append("state ").append((char) ('a' + s)).append(';');
        }
        for (int i = 0; i < rows.length; i++) {
            text.append("input ").append((char) ('x' + i)).append(';');
        }
        for (int i = 0; i < rows.length; i++) {
            for (int s = 0; s < states; s++) {
                char next = rows[i].charAt(s);
                char output = rows[i].charAt(states + 1 + s);
                // What isn't told leads to itself with OUTPUT 0.
                if (next != 'a' + s || output != '0') {
                    text.append("arc ").append((char) ('a' + s)).append(' ').append((char) ('x' + i)).append(' ');
                    text.append(next).append(' ').append(output).append(';');
                }
            }
        }
        return bench(text.append(tail).toString());
    }

    /** A name as named() wants it. */
    static int letters(String name) {
        int letters = 0;
        for (int k = 0; k < 6; k++) {
            letters = letters << 5 | (k < name.length() ? name.charAt(k) - 'a' + 1 : 0);
        }
        return letters;
    }

    /** A WORD's number; its INPUTS as digits from 0 on. */
    static int word(String inputs) {
        int number = 0;
        for (int k = 0; k < inputs.length(); k++) {
            number = number * 4 + inputs.charAt(k) - '0' + 1;
        }
        return number;
    }
}
