import java.util.ArrayList;
import java.util.HashMap;
import java.util.HashSet;
import java.util.List;
import java.util.Map;
import java.util.Random;
import java.util.Set;
import java.util.regex.Matcher;
import java.util.regex.Pattern;

/** TEXTS with FAULTS: those that the document names, then some by chance against a second reader of TEXTS. */
public final class FaultTest {
    private static final Pattern TOKEN = Pattern.compile("[a-z]+|[0-9]+|[^\\n ]", Pattern.DOTALL);
    private static final List<String> WORDS = List.of("state", "input", "more", "arc", "twist", "extra", "seed");

    private final Kit kit = new Kit("FaultTest");

    public static void main(String[] args) {
        FaultTest test = new FaultTest();
        test.tryNamed();
        test.tryStays();
        test.tryByChance(new Random(3), args.length > 0 ? Integer.parseInt(args[0]) : 40000);
        test.kit.end();
    }

    private void fault(String text, int fault, int place) {
        SuiteBench bench = new SuiteBench();
        kit.is("text of " + text, Kit.text(bench, text), -1);
        kit.is("fault(0) of " + text, bench.fault(0), fault);
        kit.is("fault(1) of " + text, bench.fault(1), place);
    }

    private void good(String text, int lines) {
        SuiteBench bench = new SuiteBench();
        kit.is("text of " + text, Kit.text(bench, text), lines);
        kit.is("fault(0) of " + text, bench.fault(0), 0);
        kit.is("fault(1) of " + text, bench.fault(1), -1);
    }

    private void tryNamed() {
        good("", 0);
        good(" \n ", 0);
        good("state a;", 1);
        good("state abcdef;input stat;", 2);
        good("seed5;extra2;state\na\n;", 3);
        good("seed 00000000000000099999;", 1);
        good("seed 99999;extra 0;", 2);
        good("input x;state a;more b;twist b x a 9;arc a x a 9;", 5);
        fault(";", 1, 0);
        fault("state a;;", 1, 8);
        fault("state", 1, 5);
        fault("state  ", 1, 7);
        fault("state a", 1, 7);
        fault("state a \n", 1, 9);
        fault("state 5;", 1, 6);
        fault("state a b;", 1, 8);
        fault("state A;", 1, 6);
        fault("state a\t;", 1, 7);
        fault("state a\r;", 1, 7);
        fault("state " + (char) 228 + ";", 1, 6);
        fault("state a" + (char) 0 + ";", 1, 7);
        fault("states a;", 1, 0);
        fault("hello;", 1, 0);
        fault("5;", 1, 0);
        fault("-1;", 1, 0);
        fault("state abcdefg;", 1, 6);
        fault("abcdefgh;", 1, 0);
        fault("state input;", 1, 6);
        fault("state seed;", 1, 6);
        fault("extra a;", 1, 6);
        fault("extra -1;", 1, 6);
        fault("extra ;", 1, 6);
        fault("extra 1", 1, 7);
        fault("more a;", 1, 0);
        fault("input x;more a;", 1, 8);
        fault("state a;more b;state c;", 1, 15);
        fault("state a;state b;state c;state d;state e;state f;more g;state h;", 1, 55);
        fault("extra 3;", 2, 6);
        fault("extra 99999999999999999999999;", 2, 6);
        fault("seed 100000;", 2, 5);
        fault("seed 999990;", 2, 5);
        fault("seed 4294967296;", 2, 5);
        fault("state a;input x;arc a x a 10;", 2, 26);
        fault("state a;input x;twist a x a 10;", 2, 28);
        fault("state a;state b;state c;state d;state e;state f;state a;", 2, 48);
        fault("state a;state b;state c;state d;state e;state f;state ", 2, 48);
        fault("input a;input b;input c;input a;", 2, 24);
        fault("state a;more b;more c;more d;", 2, 22);
        fault("state a;state a;", 3, 14);
        fault("state a;input a;", 3, 14);
        fault("input a;state a;", 3, 14);
        fault("state a;more a;", 3, 13);
        fault("state a;more b;input b;", 3, 21);
        fault("extra 1;extra 9;", 3, 8);
        fault("seed 1;seed", 3, 7);
        fault("state a;input x;arc a x a 0;arc a x b 0;", 3, 34);
        fault("state a;input x;twist a x a 0;twist a x a 0;", 3, 38);
        fault("state a;input x;arc b x a 0;", 4, 20);
        fault("state a;input x;arc x x a 0;", 4, 20);
        fault("state a;input x;arc a a a 0;", 4, 22);
        fault("state a;input x;arc a x x 0;", 4, 24);
        fault("state a;input x;more m;arc m x a 0;", 4, 27);
        fault("state a;input x;more m;arc a x m 0;", 4, 31);
        fault("state a;input x;twist a x m 0;more m;", 4, 26);
        fault("state a;input x;twist a m a 0;", 4, 24);
        fault("arc a x a 0;state a;input x;", 4, 4);
        good("state a;input x;arc a x a 0;twist a x a 0;", 4);
    }

    /** With a FAULT all else stays; -2 leaves the FAULT and the TAPE as they are. */
    private void tryStays() {
        SuiteBench bench = Kit.bench("state a;state b;input x;arc a x b 3;more m;extra 2;seed 7;");
        bench.twist(1, 0, 2, 4);
        bench.ask(1);
        bench.keep();
        bench.twist(0, 0, 2, 5);
        kit.is("text", Kit.text(bench, "state z;state z;"), -1);
        kit.is("count(0)", bench.count(0), 2);
        kit.is("count(2)", bench.count(2), 3);
        kit.is("count(3)", bench.count(3), 2);
        kit.is("named(z)", bench.named(Kit.letters("z")), -1);
        kit.is("named(m)", bench.named(Kit.letters("m")), 2);
        kit.is("count(9)", bench.count(9), 1);
        kit.is("count(10)", bench.count(10), 2);
        kit.is("built(0, 0, 1)", bench.built(0, 0, 1), 5);
        kit.is("text(1)", bench.text(1), -2);
        kit.is("fault(0)", bench.fault(0), 3);
        kit.is("fault(1)", bench.fault(1), 14);
        Kit.feed(bench, "state q;");
        kit.is("text(21)", bench.text(21), -2);
        kit.is("text(-1)", bench.text(-1), -2);
        kit.is("fault(0)", bench.fault(0), 3);
        kit.is("back()", bench.back(), 1);
        kit.is("text(20)", bench.text(20), 1);
        kit.is("fault(0)", bench.fault(0), 0);
        kit.is("back()", bench.back(), -1);
        kit.is("undo()", bench.undo(), -1);
        kit.is("count(9)", bench.count(9), 0);
        kit.is("count(3)", bench.count(3), 0);
        kit.is("count(1)", bench.count(1), 0);
        kit.is("named(q)", bench.named(Kit.letters("q")), 0);
        kit.is("named(x)", bench.named(Kit.letters("x")), -1);
    }

    private void tryByChance(Random random, int texts) {
        SuiteBench bench = new SuiteBench();
        for (int k = 0; k < texts; k++) {
            String text = spoil(random, textByChance(random));
            if (text.length() > 700) {
                text = text.substring(0, 700);
            }
            int[] due = read(text);
            kit.is("text of " + text, Kit.text(bench, text), due[0] == 0 ? due[2] : -1);
            kit.is("fault(0) of " + text, bench.fault(0), due[0]);
            kit.is("fault(1) of " + text, bench.fault(1), due[1]);
        }
    }

    private static String textByChance(Random random) {
        String[] names = {"a", "b", "c", "d", "e", "f", "g", "h", "x", "y", "zzzzzz"};
        StringBuilder text = new StringBuilder();
        int lines = 1 + random.nextInt(14);
        for (int k = 0; k < lines; k++) {
            int kind = k < 3 ? random.nextInt(2) : random.nextInt(7);
            String word = WORDS.get(kind);
            text.append(word);
            int count = kind < 3 ? 1 : kind < 5 ? 3 : 0;
            for (int n = 0; n < count; n++) {
                boolean input = kind == 1 || count == 3 && n == 1;
                int first = input ? 8 : 0;
                text.append(' ').append(names[first + random.nextInt(input ? 3 : k < 3 ? 4 : 8)]);
            }
            if (kind > 2) {
                text.append(' ').append(random.nextInt(kind == 5 ? 4 : 11));
            }
            text.append(";");
        }
        return text.toString();
    }

    private static String spoil(Random random, String text) {
        StringBuilder spoilt = new StringBuilder(text);
        int times = random.nextInt(3);
        for (int k = 0; k < times && spoilt.length() > 0; k++) {
            int at = random.nextInt(spoilt.length());
            switch (random.nextInt(5)) {
                case 0:
                    spoilt.deleteCharAt(at);
                    break;
                case 1:
                    spoilt.setCharAt(at, (char) random.nextInt(256));
                    break;
                case 2:
                    spoilt.insert(at, "\n a;x0"  .charAt(random.nextInt(6)));
                    break;
                case 3:
                    spoilt.setLength(at);
                    break;
                default:
                    spoilt.insert(at, " " + WORDS.get(random.nextInt(7)) + " ");
            }
        }
        return spoilt.toString();
    }

    /** FAULT, its place, how many LINES. */
    private static int[] read(String text) {
        List<String> tokens = new ArrayList<>();
        List<Integer> places = new ArrayList<>();
        Matcher matcher = TOKEN.matcher(text);
        while (matcher.find()) {
            tokens.add(matcher.group());
            places.add(matcher.start());
        }
        tokens.add("");
        places.add(text.length());
        Map<String, String> names = new HashMap<>();
        Set<String> once = new HashSet<>();
        int[] many = new int[3];
        int lines = 0;
        List<String> line = new ArrayList<>();
        for (int k = 0; k < tokens.size(); k++) {
            String token = tokens.get(k);
            if (token.isEmpty() && line.isEmpty()) {
                return new int[] {0, -1, lines};
            }
            int fault = line.isEmpty() ? first(token, many, once) : later(line, token, names, once);
            if (fault != 0) {
                return new int[] {fault, places.get(k), 0};
            }
            line.add(token);
            if (token.equals(";")) {
                finish(line, names, once, many);
                line.clear();
                lines++;
            }
        }
        throw new IllegalStateException("never here");
    }

    private static int first(String token, int[] many, Set<String> once) {
        int kind = WORDS.indexOf(token);
        if (kind < 0 || kind == 0 && many[2] > 0 || kind == 2 && many[0] == 0) {
            return 1;
        }
        if (kind < 3 && many[kind] == new int[] {6, 3, 2}[kind]) {
            return 2;
        }
        return kind > 4 && once.contains(token) ? 3 : 0;
    }

    private static int later(List<String> line, String token, Map<String, String> names, Set<String> once) {
        String word = line.get(0);
        String form = word.equals("arc") || word.equals("twist") ? "WWWN;" : WORDS.indexOf(word) < 3 ? "W;" : "N;";
        char due = form.charAt(line.size() - 1);
        boolean isName = token.matches("[a-z]{1,6}") && !WORDS.contains(token);
        boolean isNumber = token.matches("[0-9]+");
        if (due == ';') {
            return token.equals(";") ? 0 : 1;
        }
        if (due == 'N') {
            int most = word.equals("extra") ? 2 : word.equals("seed") ? 99999 : 9;
            return !isNumber ? 1 : new java.math.BigInteger(token).intValueExact() > most ? 2 : 0;
        }
        if (!isName) {
            return 1;
        }
        String what = names.get(token);
        if (form.equals("W;")) {
            return what != null ? 3 : 0;
        }
        boolean input = line.size() == 2;
        boolean fits = what != null && (input ? what.equals("input")
            : what.equals("state") || what.equals("more") && word.equals("twist"));
        if (!fits) {
            return 4;
        }
        return input && once.contains(word + " " + line.get(1) + " " + token) ? 3 : 0;
    }

    private static void finish(List<String> line, Map<String, String> names, Set<String> once, int[] many) {
        int kind = WORDS.indexOf(line.get(0));
        if (kind < 3) {
            many[kind]++;
            names.put(line.get(1), line.get(0));
        } else if (kind < 5) {
            once.add(line.get(0) + " " + line.get(1) + " " + line.get(2));
        } else {
            once.add(line.get(0));
        }
    }
}
