import java.util.List;

/**
 * The TAPE and the TEXT (==== 1, promises 1 to 5): each sentence that names an edge, tried on both of its sides. The
 * sentence stands above its test.
 */
public final class TapeEdgeTest {
    private static final List<String> LANGUAGE = List.of("state", "input", "more", "arc", "twist", "extra", "seed");
    private static final int BLANKS = 0x20202020;
    private static final String NAMED = "state a;state b;input x;input y;more m;";
    private static final String SIX = "state a;state b;state c;state d;state e;state f;";
    private static final String THREE = "input x;input y;input z;";

    private final Kit kit = new Kit("TapeEdgeTest");

    public static void main(String[] args) {
        TapeEdgeTest test = new TapeEdgeTest();
        test.newObject();
        test.tapeOf700();
        test.bytesOfTheTape();
        test.firstBytes();
        test.notSoMany();
        test.textMakesAllNew();
        test.faultLeavesAll();
        test.faultOfTheLatest();
        test.names();
        test.noLines();
        test.lettersOfNames();
        test.signs();
        test.numbers();
        test.tokensThatCannotStandThere();
        test.orderOfStatesAndMore();
        test.tooManyNames();
        test.toldAlready();
        test.notToldAhead();
        test.firstAlongTheText();
        test.leastOfOnePlace();
        test.kit.end();
    }

    private SuiteBench good(String text, int lines) {
        SuiteBench bench = new SuiteBench();
        kit.is("text of " + text, Kit.text(bench, text), lines);
        kit.is("fault(0) of " + text, bench.fault(0), 0);
        kit.is("fault(1) of " + text, bench.fault(1), -1);
        return bench;
    }

    /** Refused with this FAULT at this place, by a bench that holds a TEXT, which stays. */
    private void fault(String text, int fault, int place) {
        SuiteBench bench = Kit.bench("state old;input in;extra 1;");
        kit.is("text of " + text, Kit.text(bench, text), -1);
        kit.is("fault(0) of " + text, bench.fault(0), fault);
        kit.is("fault(1) of " + text, bench.fault(1), place);
        kit.is("the TAPE behind " + text, bench.feed(0, 0, 0, 0, 0), 20);
        kit.is("what was told ahead of " + text, bench.count(0) * 100 + bench.count(1) * 10 + bench.count(3), 111);
        kit.is("the name told ahead of " + text, bench.named(Kit.letters("old")), 0);
    }

    /** This FAULT behind a beginning that is right. */
    private void faultBehind(String begin, int fault, String rest) {
        fault(begin + rest, fault, begin.length());
    }

    // "A TEXT without LINES; an empty TAPE."
    private void newObject() {
        SuiteBench bench = new SuiteBench();
        kit.is("new: one byte", bench.text(1), -2);
        kit.is("new: no FAULT", bench.fault(0), 0);
        kit.is("new: its place", bench.fault(1), -1);
        for (int what : new int[] {0, 1, 2, 3, 4, 5, 7, 8, 9, 10, 11, 12}) {
            kit.is("new: count(" + what + ")", bench.count(what), 0);
        }
        kit.is("new: the first twenty bytes", bench.feed(BLANKS, BLANKS, BLANKS, BLANKS, BLANKS), 20);
        kit.is("new: no byte", new SuiteBench().text(0), 0);
    }

    // "how many it has; NONE, and none come, if it would have more than 700."
    private void tapeOf700() {
        SuiteBench bench = new SuiteBench();
        for (int k = 1; k < 35; k++) {
            kit.is("feed no. " + k, bench.feed(BLANKS, BLANKS, BLANKS, BLANKS, BLANKS), 20 * k);
        }
        kit.is("feed to 700", Kit.feed(bench, "state a;state b;"), 700);
        kit.is("feed beyond 700", Kit.feed(bench, "state c;state d;"), -1);
        kit.is("again", Kit.feed(bench, "state c;state d;"), -1);
        kit.is("none came", bench.text(701), -2);
        kit.is("nor behind", bench.text(720), -2);
        kit.is("all 700 are there", bench.text(700), 2);
        kit.is("what was there stays", bench.named(Kit.letters("b")), 1);
        kit.is("none of the others", bench.named(Kit.letters("d")), -1);
        kit.is("empty again: feed", bench.feed(BLANKS, BLANKS, BLANKS, BLANKS, BLANKS), 20);
        bench.text(20);
        for (int k = 1; k <= 35; k++) {
            bench.feed(BLANKS, BLANKS, BLANKS, BLANKS, BLANKS);
        }
        kit.is("full again", bench.feed(BLANKS, BLANKS, BLANKS, BLANKS, BLANKS), -1);
        StringBuilder full = new StringBuilder(" ".repeat(692)).append("state z;");
        kit.is("a LINE that ends at 700", Kit.text(new SuiteBench(), full.toString()), 1);
        SuiteBench cut = new SuiteBench();
        kit.is("a LINE that would end at 701", Kit.text(cut, full.insert(0, ' ').substring(0, 700)), -1);
        kit.is("its place is the length", cut.fault(1), 700);
    }

    // "Twenty bytes come behind the TAPE, four of each number, the highest first"
    private void bytesOfTheTape() {
        for (int place = 0; place < 40; place++) {
            for (int sign : new int[] {0, 1, 127, 128, 160, 255}) {
                SuiteBench bench = new SuiteBench();
                int[] five = {BLANKS, BLANKS, BLANKS, BLANKS, BLANKS};
                int shift = 24 - place % 4 * 8;
                five[place % 20 / 4] = BLANKS & ~(255 << shift) | sign << shift;
                if (place >= 20) {
                    bench.feed(BLANKS, BLANKS, BLANKS, BLANKS, BLANKS);
                }
                bench.feed(five[0], five[1], five[2], five[3], five[4]);
                bench.feed(BLANKS, BLANKS, BLANKS, BLANKS, BLANKS);
                kit.is("byte " + sign + " at " + place, bench.text(40), -1);
                kit.is("byte " + sign + " at " + place + ": its place", bench.fault(1), place);
            }
        }
    }

    // "The TAPE's first n bytes (it is empty then) are the TEXT: how many LINES"
    private void firstBytes() {
        String text = "state a;state b;";
        int[] due = {0, -1, -1, -1, -1, -1, -1, -1, 1, -1, -1, -1, -1, -1, -1, -1, 2, 2, 2, 2, 2};
        for (int n = 0; n <= 20; n++) {
            SuiteBench bench = new SuiteBench();
            Kit.feed(bench, text);
            kit.is("text(" + n + ")", bench.text(n), due[n]);
            kit.is("text(" + n + "): FAULT", bench.fault(0), due[n] < 0 ? 1 : 0);
            // A word that was cut off stands where it begins; behind a whole one the length is the place.
            int place = n % 8 < 5 ? n / 8 * 8 : n;
            kit.is("text(" + n + "): its place", bench.fault(1), due[n] < 0 ? place : -1);
            kit.is("text(" + n + "): empty then", bench.text(1), -2);
            kit.is("text(" + n + "): feed then", bench.feed(BLANKS, BLANKS, BLANKS, BLANKS, BLANKS), 20);
        }
        SuiteBench behind = new SuiteBench();
        Kit.feed(behind, "state a;#########");
        kit.is("what is behind isn't read", behind.text(8), 1);
    }

    // "-2, and the TAPE stays: there are not so many, n is below 0."
    private void notSoMany() {
        for (int n : new int[] {Integer.MIN_VALUE, -2, -1, 21, 22, 40, 700, 701, Integer.MAX_VALUE}) {
            SuiteBench bench = Kit.bench("state a;");
            bench.twist(0, 0, 0, 0);
            Kit.text(bench, "more q;");
            Kit.feed(bench, "state b;state c;");
            kit.is("text(" + n + ")", bench.text(n), -2);
            kit.is("text(" + n + "): the FAULT stays", bench.fault(0), 1);
            kit.is("text(" + n + "): its place stays", bench.fault(1), 0);
            kit.is("text(" + n + "): the TEXT stays", bench.count(0), 1);
            kit.is("text(" + n + "): the TAPE stays", bench.feed(BLANKS, BLANKS, BLANKS, BLANKS, BLANKS), 40);
            kit.is("text(" + n + "): and its bytes", bench.text(40), 2);
            kit.is("text(" + n + "): in their row", bench.named(Kit.letters("c")), 1);
        }
    }

    // "(the BUILT one as told, THE LOG empty, no IMAGE, nothing to undo)"
    private void textMakesAllNew() {
        String[] texts = {"", Twins.TEXT, "state a;", "input x;"};
        for (String text : texts) {
            SuiteBench bench = Twins.used();
            bench.text(0);
            kit.is("text(0): no STATES", bench.count(0), 0);
            SuiteBench used = Twins.used();
            used.text(20);
            Kit.text(used, Twins.TEXT);
            used.twist(0, 0, 3, 4);
            used.ask(1);
            used.keep();
            Kit.text(used, text);
            SuiteBench fresh = new SuiteBench();
            Kit.text(fresh, text);
            for (int what = 0; what < 13; what++) {
                kit.is("count(" + what + ") of " + text, used.count(what), fresh.count(what));
            }
            kit.is("THE LOG of " + text, used.count(9), 0);
            kit.is("the IMAGE of " + text, used.back(), -1);
            kit.is("to undo of " + text, used.undo(), -1);
            for (int arc = 0; arc < 8; arc++) {
                kit.is("built next of " + text, used.built(arc / 2, arc % 2, 0), fresh.built(arc / 2, arc % 2, 0));
                kit.is("built OUTPUT of " + text, used.built(arc / 2, arc % 2, 1), fresh.built(arc / 2, arc % 2, 1));
            }
        }
    }

    // "NONE with a FAULT, all else stays"
    private void faultLeavesAll() {
        String[] texts = {";", "seed 100000;", "state a;state a;", "arc a x a 0;", "state z;input q;extra 2;seed 9;more"};
        for (String text : texts) {
            SuiteBench bench = Twins.used();
            SuiteBench twin = Twins.used();
            // Both TAPES are emptied, by FAULTS.
            bench.text(3);
            twin.text(3);
            kit.is("text of " + text, Kit.text(bench, text), -1);
            for (int what = 0; what < 13; what++) {
                kit.is("count(" + what + ") behind " + text, bench.count(what), twin.count(what));
            }
            kit.is("the seed behind " + text, bench.chance(-1, 15), bench.chance(7, 15));
            kit.is("a name behind " + text, bench.named(Kit.letters("m")), 3);
            kit.is("no name of " + text, bench.named(Kit.letters("z")), -1);
            for (int k = 0; k <= Twins.UNDONE; k++) {
                for (int arc = 0; arc < 8; arc++) {
                    kit.is("built behind " + text, bench.built(arc / 2, arc % 2, 0), twin.built(arc / 2, arc % 2, 0));
                    kit.is("built behind " + text, bench.built(arc / 2, arc % 2, 1), twin.built(arc / 2, arc % 2, 1));
                }
                kit.is("undo() behind " + text, bench.undo(), twin.undo());
            }
            kit.is("THE LOG behind " + text, bench.forget(), Twins.LOGGED);
            kit.is("the IMAGE behind " + text, bench.back(), 1);
            kit.is("the TAPE behind " + text, bench.feed(0, 0, 0, 0, 0), 20);
        }
    }

    // "Of the latest text() that was not -2, what 0: its FAULT (0), 1: its place (NONE without)."
    private void faultOfTheLatest() {
        SuiteBench bench = new SuiteBench();
        int[][] due = {{1, 0}, {0, -1}, {2, 6}, {3, 14}, {0, -1}};
        String[] texts = {";", "state a;", "extra 3;", "state a;state a;", ""};
        for (int k = 0; k < texts.length; k++) {
            Kit.text(bench, texts[k]);
            bench.text(1);
            bench.text(-1);
            kit.is("fault(0) of " + texts[k], bench.fault(0), due[k][0]);
            kit.is("fault(1) of " + texts[k], bench.fault(1), due[k][1]);
            kit.is("fault(2) of " + texts[k], bench.fault(2), -1);
            kit.is("fault(-1) of " + texts[k], bench.fault(-1), -1);
        }
    }

    // "5 bits each (a is 1; the first one highest of six, 0 behind the last one), the number of a PLACE, of an INPUT 100 more"
    private void names() {
        String text = "state a;state zzzzzz;state abcdef;state ab;state z;state zz;more stat;more seeds;input b;input zzzzz;input az;";
        SuiteBench bench = good(text, 11);
        String[] names = {"a", "zzzzzz", "abcdef", "ab", "z", "zz", "stat", "seeds"};
        for (int k = 0; k < names.length; k++) {
            kit.is("named(" + names[k] + ")", bench.named(Kit.letters(names[k])), k);
        }
        String[] inputs = {"b", "zzzzz", "az"};
        for (int k = 0; k < inputs.length; k++) {
            kit.is("named(" + inputs[k] + ")", bench.named(Kit.letters(inputs[k])), 100 + k);
        }
        for (String name : new String[] {"aa", "abcde", "abc", "zzzz", "zzz", "y", "ba", "seed", "state", "sta", "c"}) {
            kit.is("named(" + name + ")", bench.named(Kit.letters(name)), -1);
        }
        // Not at the highest place; a 0 within; above six letters; letters beyond z.
        for (int letters : new int[] {1, 1 << 5, 1 << 20, 1 << 25 | 2, 1 << 25 | 2 << 15, 0, 27 << 25, 31 << 25,
            1 << 25 | 1 << 30, 1 << 25 | 1 << 31, -1, Integer.MIN_VALUE, Integer.MAX_VALUE}) {
            kit.is("named by " + letters, bench.named(letters), -1);
        }
        kit.is("named(a) by its number", bench.named(1 << 25), 0);
        kit.is("named(ab) by its number", bench.named(1 << 25 | 2 << 20), 3);
        kit.is("named(zzzzzz) by its number", bench.named(0x35ad6b5a), 1);
    }

    // "A TEXT: { LINE ';' }"
    private void noLines() {
        good("", 0);
        good(" ", 0);
        good("\n \n\n ", 0);
        good("seed 1;", 1);
        good(" seed 1 ; ", 1);
        fault(";", 1, 0);
        fault(" ;", 1, 1);
        fault("seed 1;;", 1, 7);
        fault("seed 1; ;", 1, 8);
    }

    // "Words: small letters in a row; W: one of 1 .. 6 letters, none of those of the language"
    private void lettersOfNames() {
        for (int letters = 1; letters <= 6; letters++) {
            String name = "z".repeat(letters);
            kit.is("a name of " + letters, good("state " + name + ";", 1).named(Kit.letters(name)), 0);
        }
        for (int letters = 7; letters <= 40; letters++) {
            faultBehind("state ", 1, "z".repeat(letters) + ";");
            faultBehind("", 1, "z".repeat(letters) + " a;");
        }
        for (String word : LANGUAGE) {
            for (String line : new String[] {"state ", "input ", NAMED + "more "}) {
                faultBehind(line, 1, word + ";");
                good(line + word.substring(1) + ";", 1 + (line.length() > 6 ? 5 : 0));
            }
            good("state " + word.substring(0, word.length() - 1) + ";", 1);
            good("state " + word + "s;", 1);
            faultBehind(NAMED + "arc ", 1, word + " x a 0;");
            faultBehind(NAMED + "arc a ", 1, word + " a 0;");
            faultBehind(NAMED + "arc a x ", 1, word + " 0;");
            faultBehind(NAMED + "twist ", 1, word + " x a 0;");
            faultBehind(NAMED + "twist a ", 1, word + " a 0;");
            faultBehind(NAMED + "twist a x ", 1, word + " 0;");
            // Neither a part of a word of the language nor more than it is one.
            faultBehind("", 1, word.substring(0, word.length() - 1) + " a;");
            faultBehind("", 1, word + "s a;");
            faultBehind("", 1, word + "state a;");
        }
    }

    // "N: digits. Blanks 10, 32." and "a TOKEN that is none"
    private void signs() {
        for (int sign = 0; sign < 256; sign++) {
            char c = (char) sign;
            boolean blank = sign == 10 || sign == 32;
            boolean letter = sign >= 'a' && sign <= 'z';
            boolean digit = sign >= '0' && sign <= '9';
            if (blank) {
                good("state" + c + "a;", 1);
                good(c + "state a" + c + ";" + c, 1);
                fault("state " + c + ";", 1, 7);
                fault("extra " + c + ";", 1, 7);
            } else {
                fault("state" + c + "a;", 1, letter ? 0 : 5);
                fault("state a" + c + " ;", 1, c == ';' ? 9 : 7, letter);
                fault("state " + c + ";", 1, 6, letter);
                fault("extra " + c + ";", digit ? 2 : 1, 6, digit && sign <= '2');
                fault("state a;" + c, 1, 8);
            }
        }
    }

    /** A FAULT, or none if it is good. */
    private void fault(String text, int fault, int place, boolean isGood) {
        if (isGood) {
            good(text, 1);
        } else {
            fault(text, fault, place);
        }
    }

    // "OUTPUT 0 .. 9", "extra: 0 .. 2 (0)", "seed: 0 .. 99999 (0)", "too much: a number beyond what is said"
    private void numbers() {
        String[] tooMuch = {"10", "11", "19", "90", "99", "100", "010", "4294967296", "18446744073709551616", "1".repeat(60)};
        for (String number : tooMuch) {
            faultBehind(NAMED + "arc a x b ", 2, number + ";");
            faultBehind(NAMED + "twist a x b ", 2, number + ";");
            faultBehind(NAMED + "extra ", 2, number + ";");
        }
        for (int output = 0; output < 10; output++) {
            kit.is("OUTPUT " + output, good(NAMED + "arc b y a " + output + ";", 6).arc(1, 1, 1), output);
            kit.is("twist OUTPUT " + output, good(NAMED + "twist m y m " + output + ";", 6).built(2, 1, 1), output);
            kit.is("zeros ahead", good(NAMED + "arc b y a 00000000000" + output + ";", 6).arc(1, 1, 1), output);
        }
        kit.is("extra isn't told", good(NAMED, 5).count(3), 0);
        for (int extra = 0; extra < 3; extra++) {
            kit.is("extra " + extra, good("extra " + extra + ";", 1).count(3), extra);
            kit.is("extra 000" + extra, good("extra 000" + extra + ";", 1).count(3), extra);
        }
        for (int extra = 3; extra < 10; extra++) {
            faultBehind("extra ", 2, extra + ";");
        }
        String[] seeds = {"0", "1", "99998", "99999", "00099999", "0".repeat(300) + "1"};
        for (String seed : seeds) {
            SuiteBench bench = good("state a;input x;input y;input z;twist a x a 1;seed " + seed + ";", 6);
            kit.is("seed " + seed, counts(bench, -1), counts(bench, Integer.parseInt(seed)));
        }
        SuiteBench unsown = good("state a;input x;input y;input z;twist a x a 1;", 5);
        kit.is("seed isn't told", counts(unsown, -1), counts(unsown, 0));
        for (String seed : new String[] {"100000", "100001", "99999" + "0", "4294967296", "4294967297", "0100000",
            "18446744073709551616", "9".repeat(400)}) {
            faultBehind("seed ", 2, seed + ";");
        }
    }

    /** chance() for 1 .. 9 INPUTS as digits. */
    private static long counts(SuiteBench bench, int seed) {
        long row = 0;
        for (int n = 1; n < 10; n++) {
            row = row * 11 + bench.chance(seed, n);
        }
        return row;
    }

    // "or can't stand there (the length, if more must come)"
    private void tokensThatCannotStandThere() {
        String[] lines = {"state c", "input z", "arc a x b 0", "twist m y m 9", "extra 2", "seed 99999"};
        String[] tokens = {"state", "seed", "a", "zzzzzz", "zzzzzzz", "0", "9999999", ";", "#", "A"};
        for (String line : lines) {
            String begin = line.startsWith("state") ? "state a;" : NAMED;
            String[] parts = (line + " ;").split(" ");
            for (int k = 0; k < parts.length; k++) {
                for (String token : tokens) {
                    if (!isSortOf(token, parts[k])) {
                        faultBehind(begin, 1, token + " x;".repeat(2));
                    }
                }
                if (k > 0) {
                    String cut = begin.stripTrailing();
                    fault(cut, 1, cut.length());
                    fault(cut + " ", 1, cut.length() + 1);
                    fault(cut + "\n \n", 1, cut.length() + 3);
                }
                begin += parts[k] + " ";
            }
            good(begin, begin.split(";").length - 1);
        }
        cutMore();
    }

    private void cutMore() {
        fault("state a;more", 1, 12);
        fault("state a;more b", 1, 14);
        fault("state a;more b c;", 1, 15);
        fault("state a;more 1;", 1, 13);
        fault("state a;more ;", 1, 13);
        fault("state a;more more;", 1, 13);
        good("state a;more b;", 2);
    }

    /** Whether a TOKEN may stand where this one stands, by its sort alone. */
    private static boolean isSortOf(String token, String part) {
        if (LANGUAGE.contains(part)) {
            return LANGUAGE.contains(token);
        }
        if (part.equals(";")) {
            return token.equals(";");
        }
        boolean number = part.matches("[0-9]+");
        return number ? token.matches("[0-9]+") : token.matches("[a-z]{1,6}") && !LANGUAGE.contains(token);
    }

    // "state behind a more; more ahead of all states"
    private void orderOfStatesAndMore() {
        good("state a;more b;", 2);
        good("state a;more b;more c;input x;extra 1;seed 1;twist b x c 0;arc a x a 0;", 8);
        good("input x;state a;input y;more b;input z;", 5);
        faultBehind("", 1, "more b;state a;");
        faultBehind("input x;extra 1;", 1, "more b;");
        faultBehind("state a;more b;", 1, "state c;");
        faultBehind("state a;more b;input x;more c;", 1, "state d;");
        for (int states = 1; states <= 6; states++) {
            SuiteBench bench = good(SIX.substring(0, 8 * states) + "more p;more q;", states + 2);
            kit.is("MORE behind " + states, bench.named(Kit.letters("p")), states);
            kit.is("MORE behind " + states, bench.named(Kit.letters("q")), states + 1);
            kit.is("PLACES of " + states, bench.count(2), states + 2);
        }
    }

    // "a seventh state, a fourth input, a third more (at the word of the LINE)"
    private void tooManyNames() {
        SuiteBench bench = good(SIX + THREE + "more g;more h;", 11);
        kit.is("STATES", bench.count(0), 6);
        kit.is("INPUTS", bench.count(1), 3);
        kit.is("PLACES", bench.count(2), 8);
        kit.is("the sixth STATE", bench.named(Kit.letters("f")), 5);
        kit.is("the third INPUT", bench.named(Kit.letters("z")), 102);
        kit.is("the last of MORE", bench.named(Kit.letters("h")), 7);
        faultBehind(SIX, 2, "state g;");
        faultBehind(THREE, 2, "input w;");
        faultBehind("state a;more b;more c;", 2, "more d;");
        faultBehind(SIX + THREE + "more g;more h;", 2, "more i;");
        faultBehind(SIX + THREE + "more g;more h;", 2, "input i;");
        faultBehind(SIX + "input x;input y;more g;more h;input z;", 2, "input w;");
    }

    // "told already: a name, of whatever it is (at W), the arc, the twist of the same two (at the second W of the LINE),
    // extra, seed (at the word)"
    private void toldAlready() {
        String[] lines = {"state ", "input ", "more "};
        for (String first : lines) {
            for (String second : lines) {
                String begin = first.equals("more ") ? "state o;more n;" : "state o;".repeat(second.equals("more ") ? 1 : 0) + first + "n;";
                if (!(first.equals("more ") && second.equals("state "))) {
                    faultBehind(begin + second, 3, "n;");
                    good(begin + second + "nn;", begin.split(";").length + 1);
                }
            }
        }
        for (String line : new String[] {"arc ", "twist "}) {
            String begin = NAMED + line + "a x b 1;";
            faultBehind(begin + line + "a ", 3, "x b 1;");
            faultBehind(begin + line + "a ", 3, "x a 2;");
            faultBehind(begin + line + "a y b 1;" + line + "b x a 1;" + line + "b ", 3, "x b 1;");
            good(begin + line + "a y b 1;" + line + "b x b 1;" + line + "b y b 1;", 9);
        }
        faultBehind(NAMED + "twist m x b 1;twist m ", 3, "x b 1;");
        SuiteBench both = good(NAMED + "twist a x b 1;arc a x a 2;", 7);
        kit.is("arc and twist of the same two", both.arc(0, 0, 1), 2);
        kit.is("twist and arc of the same two", both.built(0, 0, 1), 1);
        good("extra 0;seed 0;", 2);
        faultBehind("extra 0;", 3, "extra 0;");
        faultBehind("extra 1;seed 5;", 3, "extra 2;");
        faultBehind("seed 0;", 3, "seed 0;");
        faultBehind("seed 0;extra 0;", 3, "seed 1;");
        faultBehind("seed 0;", 3, "seed");
        faultBehind("extra 0;", 3, "extra ;");
    }

    // "a name that isn't told ahead as what it must be (at W)"
    private void notToldAhead() {
        String[] noStates = {"x", "n", "aa", "m"};
        String[] noPlaces = {"x", "n", "aa"};
        String[] noInputs = {"a", "n", "xx", "m"};
        for (String name : noStates) {
            faultBehind(NAMED + "arc ", 4, name + " x b 1;");
            faultBehind(NAMED + "arc a x ", 4, name + " 1;");
        }
        for (String name : noPlaces) {
            faultBehind(NAMED + "twist ", 4, name + " x b 1;");
            faultBehind(NAMED + "twist a x ", 4, name + " 1;");
        }
        for (String name : noInputs) {
            faultBehind(NAMED + "arc a ", 4, name + " b 1;");
            faultBehind(NAMED + "twist m ", 4, name + " b 1;");
        }
        good(NAMED + "arc a x b 1;twist m x m 1;", 7);
        // Told behind is not told ahead.
        faultBehind("input x;arc ", 4, "a x a 0;state a;");
        faultBehind("state a;arc a ", 4, "x a 0;input x;");
        faultBehind("state a;input x;arc a x ", 4, "b 0;state b;");
        faultBehind("state a;input x;twist ", 4, "m x a 0;more m;");
        faultBehind("state a;input x;twist a x ", 4, "m 0;more m;");
        good("state a;input x;more m;twist a x m 0;twist m x a 0;", 5);
        good("state a;input x;arc a x a 0;state b;arc b x b 0;", 5);
    }

    // "FAULTS, the first along the text"
    private void firstAlongTheText() {
        String[] parts = {"state 5", "extra 3", "state a", "arc q x a 0"};
        int[] faults = {1, 2, 3, 4};
        int[] places = {6, 6, 6, 4};
        for (int first = 0; first < 4; first++) {
            for (int second = 0; second < 4; second++) {
                fault("state a;" + parts[first] + ";" + parts[second] + ";", faults[first], 8 + places[first]);
            }
        }
        fault("arc a x a 10;state a;state a;", 4, 4);
        fault(NAMED + "arc a x q 10", 4, NAMED.length() + 8);
        fault(NAMED + "arc q q q 10", 4, NAMED.length() + 4);
        fault(NAMED + "arc a x b 10", 2, NAMED.length() + 10);
        fault(NAMED + "arc a x b 9 9", 1, NAMED.length() + 12);
        fault(NAMED + "arc a x b 0;arc a x q 10;", 3, NAMED.length() + 18);
        fault(NAMED + "arc a x b 0;arc q x b 0;", 4, NAMED.length() + 16);
        fault(SIX + "state a b 5", 2, 48);
        fault(SIX + "state a;#", 2, 48);
        fault("extra 1;extra 3;", 3, 8);
        fault("extra 3;extra 3;", 2, 6);
    }

    // "of one place the least"
    private void leastOfOnePlace() {
        faultBehind(SIX + "more m;", 1, "state g;");
        faultBehind(NAMED + "arc ", 1, "abcdefg x a 0;");
        faultBehind(NAMED + "arc a ", 1, "input a 0;");
        faultBehind("state a;more b;input x;more c;", 1, "state a;");
        faultBehind("state ", 1, "100000;");
        faultBehind(THREE, 2, "input x;");
    }
}
