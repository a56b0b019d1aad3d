import java.util.Arrays;
import java.util.NoSuchElementException;

/**
 * A bench on which a machine that is built (here: made) is tried against the one that was meant.
 * The words in capitals are those of the document.
 */
public final class SuiteBench {
    public static final int NONE = -1;

    private static final int NOT = -2;
    private static final int FULL = -3;

    private static final int MOST_STATES = 6;
    private static final int MOST_INPUTS = 3;
    private static final int MOST_MORE = 2;
    private static final int MOST_PLACES = 8;
    private static final int MOST_ARCS = 24;
    private static final int MOST_OUTPUT = 9;
    private static final int MOST_EXTRA = 2;
    private static final int MOST_SEED = 99999;
    private static final int MOST_TAPE = 700;
    private static final int MOST_LOG = 20;
    private static final int MOST_UNDO = 20;
    private static final int MOST_MUTANTS = 252;
    private static final int LONGEST_WORD = 15;
    private static final int WORDS_BY_CHANCE = 10;
    private static final int THE_MACHINE = 1000;

    private final Reader reader;
    private final Machine meant;
    private final Machine made;
    private final Traits traits;
    private final Search search;
    private final Suites suites;
    private final Mutants mutants;
    private final Log log;
    private final Suspects suspects;
    private final int[] past;
    private final int[] image;
    private final Log imageLog;
    private Plan told;
    private int pastFirst;
    private int pastCount;
    private boolean kept;

    public SuiteBench() {
        reader = new Reader();
        told = new Plan();
        meant = new Machine();
        made = new Machine();
        traits = new Traits(meant);
        search = new Search(meant, traits);
        suites = new Suites(meant, traits, search);
        mutants = new Mutants(meant, traits, search);
        log = new Log();
        suspects = new Suspects(meant, mutants, log);
        past = new int[MOST_UNDO * MOST_ARCS];
        image = new int[MOST_ARCS];
        imageLog = new Log();
        settle();
    }

    public int feed(int a, int b, int c, int d, int e) {
        if (reader.taped + 20 > MOST_TAPE) {
            return NONE;
        }
        reader.take(a);
        reader.take(b);
        reader.take(c);
        reader.take(d);
        reader.take(e);
        return reader.taped;
    }

    public int text(int n) {
        if (n < 0 || n > reader.taped) {
            return NOT;
        }
        if (!reader.reads(n)) {
            return NONE;
        }
        Plan old = told;
        told = reader.draft;
        reader.draft = old;
        settle();
        return told.lines;
    }

    public int fault(int what) {
        if (what == 0) {
            return reader.fault;
        }
        return what == 1 ? reader.faultPlace : NONE;
    }

    public int named(int letters) {
        int place = told.placeNamed(letters);
        if (place >= 0) {
            return place;
        }
        int input = told.inputNamed(letters);
        return input >= 0 ? 100 + input : NONE;
    }

    public int arc(int state, int input, int what) throws IndexOutOfBoundsException, NoSuchElementException {
        if (!meant.has(state, input)) {
            throw new IndexOutOfBoundsException("no such state or input");
        }
        if (what != 0 && what != 1) {
            throw new NoSuchElementException("no such what");
        }
        return meant.part(state, input, what);
    }

    public int built(int place, int input, int what) {
        if (!made.has(place, input) || what < 0 || what > 1) {
            return NONE;
        }
        return made.part(place, input, what);
    }

    public long answer(int state, int word) {
        if (!isState(state) || !isWord(word, meant.inputs)) {
            return NONE;
        }
        return meant.tell(state, word);
    }

    public int leads(int state, int word) {
        if (!isState(state) || !isWord(word, meant.inputs)) {
            return NONE;
        }
        return meant.go(state, word);
    }

    public long answerBuilt(int word) {
        if (meant.places == 0 || !isWord(word, made.inputs)) {
            return NONE;
        }
        return made.tell(0, word);
    }

    public int access(int state) {
        return isState(state) ? traits.access[state] : NONE;
    }

    public int kind(int state) {
        return isState(state) ? traits.kinds[state] : NONE;
    }

    public int separator(int one, int other) {
        if (!isState(one) || !isState(other)) {
            return NONE;
        }
        return traits.separators[one * MOST_STATES + other];
    }

    public int splitter(int k) {
        if (k < 0 || meant.places == 0) {
            return NONE;
        }
        return k < traits.splitterCount ? traits.splitters[k] : NOT;
    }

    public int mark(int state, int k) {
        if (k < 0 || !isState(state)) {
            return NONE;
        }
        return k < traits.markCounts[state] ? traits.marks[state * MOST_STATES + k] : NOT;
    }

    public int sign(int state) {
        return isState(state) ? search.signOf(state) : NONE;
    }

    public int suite(int suite, int what) {
        if (!isSuite(suite) || what < 0 || what > 2) {
            return NONE;
        }
        Tests tests = suites.give(suite);
        if (what == 0) {
            return tests.count;
        }
        return what == 1 ? tests.inputsInSum() : tests.mostInputs();
    }

    public int test(int suite, int k) {
        if (!isPlanned(suite) || k < 0) {
            return NONE;
        }
        Tests tests = suites.give(suite);
        return k < tests.count ? tests.words[k] : NOT;
    }

    public int way(int what, int k) {
        if (what < 0 || what > 1 || k < 0) {
            return NONE;
        }
        Tests chain = suites.give(2 + what);
        return k < chain.nodes - 1 ? chain.by[k + 1] : NOT;
    }

    public int verdict(int suite, int what) {
        if (!isSuite(suite) || what < 0 || what > 3) {
            return NONE;
        }
        Tests tests = suites.give(suite);
        tests.run(made);
        if (what == 0) {
            return tests.failures();
        }
        int first = tests.firstFailure();
        if (first < 0) {
            return NOT;
        }
        if (what == 1) {
            return first;
        }
        return what == 2 ? tests.wrongPlace(first) : tests.wrongOutput(first, made);
    }

    public boolean isEqual() {
        return search.unlike(meant, made) == NOT;
    }

    public int witness() {
        return search.unlike(meant, made);
    }

    public int enough(int suite) {
        if (!isPlanned(suite)) {
            return NONE;
        }
        for (int n = 0; n <= MOST_EXTRA; n++) {
            if (suites.planned(suite, n).isFailedBy(made)) {
                return n;
            }
        }
        return NOT;
    }

    public int mutants(int suite, int what) {
        if (!isSuite(suite) || what < 0 || what > 4) {
            return NONE;
        }
        if (what == 0) {
            return mutants.count;
        }
        if (what == 1) {
            return mutants.equalOnes();
        }
        if (what == 2) {
            return mutants.noticedBy(suite, suites.give(suite));
        }
        if (what == 3) {
            return mutants.count - mutants.equalOnes() - mutants.noticedBy(suite, suites.give(suite));
        }
        return mutants.firstMissedBy(suite, suites.give(suite));
    }

    public int mutant(int k, int what) {
        if (!mutants.has(k) || what < 0 || what > 3) {
            return NONE;
        }
        return mutants.part(k, what);
    }

    public int parts(int one, int other) {
        if (!mutants.has(one) || !mutants.has(other)) {
            return NONE;
        }
        return mutants.unlikeOnes(one, other);
    }

    public int small(int k, int suite, int what) {
        if (k < 1 || k > 2 || !isPlanned(suite) || what < 0 || what > 2 || meant.places == 0) {
            return NONE;
        }
        if (what == 0) {
            return mutants.smallOnes(k);
        }
        Tests tests = suites.give(suite);
        return what == 1 ? mutants.smallPassing(k, suite, tests) : mutants.smallEqual(k, suite, tests);
    }

    public int tree(int states, int what) {
        if (states < 0 || states >= 1 << meant.places || Integer.bitCount(states) < 2 || what < 0 || what > 1) {
            return NONE;
        }
        return what == 0 ? search.treeDepth(states) : search.treeInput(states);
    }

    public int word(int what) {
        if (what < 0 || what > 2 || meant.places == 0) {
            return NONE;
        }
        return search.wordForAll(what);
    }

    public int covered(int suite) {
        return isPlanned(suite) ? mutants.coveredBy(suite, suites.give(suite)) : NONE;
    }

    public long ask(int word) {
        if (meant.places == 0 || !isWord(word, made.inputs)) {
            return NONE;
        }
        if (log.count >= MOST_LOG) {
            return FULL;
        }
        long outputs = made.tell(0, word);
        log.add(word, outputs);
        suspects.renew();
        return outputs;
    }

    public int forget() {
        int were = log.count;
        log.count = 0;
        suspects.renew();
        return were;
    }

    public int suspects(int what) {
        if (what == 0) {
            return suspects.all() - suspects.machineAmong();
        }
        return what == 1 ? suspects.machineAmong() : NONE;
    }

    public int suspect(int k) {
        return k < 0 ? NONE : suspects.number(k);
    }

    public int next() {
        return suspects.all() < 2 ? NOT : suspects.nextWord(suites.give(1));
    }

    public int chance(int seed, int n) {
        if (seed < -1 || n < 1 || n > LONGEST_WORD || meant.places == 0 || meant.inputs == 0) {
            return NONE;
        }
        int last = seed == -1 ? told.seed : seed;
        int wrong = 0;
        for (int w = 0; w < WORDS_BY_CHANCE; w++) {
            int number = 0;
            for (int i = 0; i < n; i++) {
                last = last * 1103515245 + 12345 & 0x7fffffff;
                number = number << 2 | (last >> 16) % meant.inputs + 1;
            }
            if (meant.tell(0, number) != made.tell(0, number)) {
                wrong++;
            }
        }
        return wrong;
    }

    public boolean twist(int place, int input, int to, int output) {
        if (!made.has(place, input) || to < 0 || to >= made.places || output < 0 || output > MOST_OUTPUT) {
            return false;
        }
        remember();
        made.set(place, input, to, output);
        return true;
    }

    public boolean mend(int place, int input) {
        if (!made.has(place, input)) {
            return false;
        }
        remember();
        made.set(place, input, meant.part(place, input, 0), meant.part(place, input, 1));
        return true;
    }

    public boolean mutate(int k) {
        if (!mutants.has(k)) {
            return false;
        }
        remember();
        made.copyArcs(meant);
        mutants.dress(made, k);
        return true;
    }

    public int undo() {
        if (pastCount == 0) {
            return NONE;
        }
        pastCount--;
        made.unpack(past, pastSlot());
        return pastCount;
    }

    public int keep() {
        made.pack(image, 0);
        imageLog.copy(log);
        kept = true;
        return log.count;
    }

    public int back() {
        if (!kept) {
            return NONE;
        }
        made.unpack(image, 0);
        log.copy(imageLog);
        suspects.renew();
        pastCount = 0;
        return log.count;
    }

    public int count(int what) {
        switch (what) {
            case 0:
                return meant.places;
            case 1:
                return meant.inputs;
            case 2:
                return made.places;
            case 3:
                return told.extra;
            case 4:
                return Integer.bitCount(traits.reached);
            case 5:
                return traits.kindCount;
            case 6:
                return traits.top;
            case 7:
                return traits.splitterCount;
            case 8:
                return mutants.count;
            case 9:
                return log.count;
            case 10:
                return pastCount;
            case 11:
                return made.arcsUnlike(meant);
            case 12:
                return made.placesReached();
            default:
                return NONE;
        }
    }

    private boolean isState(int state) {
        return state >= 0 && state < meant.places;
    }

    private static boolean isSuite(int suite) {
        return suite >= 0 && suite <= 3;
    }

    private static boolean isPlanned(int suite) {
        return suite == 0 || suite == 1;
    }

    private static boolean isWord(int word, int inputs) {
        if (word < 0 || word >= 1 << 2 * LONGEST_WORD) {
            return false;
        }
        int length = lengthOf(word);
        for (int left = 0; left < length; left++) {
            int input = inputAt(word, left);
            if (input < 0 || input >= inputs) {
                return false;
            }
        }
        return true;
    }

    private static int lengthOf(int word) {
        int length = 0;
        while (length < LONGEST_WORD && word >> 2 * length != 0) {
            length++;
        }
        return length;
    }

    /** The INPUT of a WORD behind which so many are left. */
    private static int inputAt(int word, int left) {
        return (word >> 2 * left & 3) - 1;
    }

    private void settle() {
        meant.still(told.states, told.inputs);
        meant.tellArcs(told.arcs);
        made.still(told.states + told.more, told.inputs);
        made.tellArcs(told.arcs);
        made.tellArcs(told.twists);
        traits.learn();
        search.renew();
        suites.renew(told.extra);
        mutants.list();
        log.count = 0;
        suspects.renew();
        pastFirst = 0;
        pastCount = 0;
        kept = false;
    }

    private int pastSlot() {
        return (pastFirst + pastCount) % MOST_UNDO * MOST_ARCS;
    }

    private void remember() {
        // The oldest one gives way: only the latest twenty can be undone.
        if (pastCount == MOST_UNDO) {
            pastFirst = (pastFirst + 1) % MOST_UNDO;
            pastCount--;
        }
        made.pack(past, pastSlot());
        pastCount++;
    }

    /** What a TEXT tells. */
    private static final class Plan {
        static final int UNTOLD = -1;

        final int[] placeNames = new int[MOST_PLACES];
        final int[] inputNames = new int[MOST_INPUTS];
        final int[] arcs = new int[MOST_ARCS];
        final int[] twists = new int[MOST_ARCS];
        int states;
        int more;
        int inputs;
        int extra;
        int seed;
        int lines;
        boolean extraTold;
        boolean seedTold;

        Plan() {
            clear();
        }

        void clear() {
            Arrays.fill(arcs, UNTOLD);
            Arrays.fill(twists, UNTOLD);
            states = 0;
            more = 0;
            inputs = 0;
            extra = 0;
            seed = 0;
            lines = 0;
            extraTold = false;
            seedTold = false;
        }

        int placeNamed(int name) {
            for (int p = 0; p < states + more && p < MOST_PLACES; p++) {
                if (placeNames[p] == name) {
                    return p;
                }
            }
            return NONE;
        }

        int inputNamed(int name) {
            for (int i = 0; i < inputs && i < MOST_INPUTS; i++) {
                if (inputNames[i] == name) {
                    return i;
                }
            }
            return NONE;
        }

        boolean isTold(int name) {
            return placeNamed(name) >= 0 || inputNamed(name) >= 0;
        }
    }

    /** Holds the TAPE and makes a Plan of it, up to the first FAULT. */
    private static final class Reader {
        private static final int END = 0;
        private static final int WORD = 1;
        private static final int NUMBER = 2;
        private static final int CLOSE = 3;
        private static final int BAD = 4;

        // The words of the language as named() wants names: 5 bits a letter, the first one highest of six.
        private static final int STATE = 19 << 25 | 20 << 20 | 1 << 15 | 20 << 10 | 5 << 5;
        private static final int INPUT = 9 << 25 | 14 << 20 | 16 << 15 | 21 << 10 | 20 << 5;
        private static final int MORE = 13 << 25 | 15 << 20 | 18 << 15 | 5 << 10;
        private static final int ARC = 1 << 25 | 18 << 20 | 3 << 15;
        private static final int TWIST = 20 << 25 | 23 << 20 | 9 << 15 | 19 << 10 | 20 << 5;
        private static final int EXTRA = 5 << 25 | 24 << 20 | 20 << 15 | 18 << 10 | 1 << 5;
        private static final int SEED = 19 << 25 | 5 << 20 | 5 << 15 | 4 << 10;

        final byte[] tape = new byte[MOST_TAPE];
        Plan draft = new Plan();
        int taped;
        int fault;
        int faultPlace = NONE;
        private int end;
        private int at;
        private int kind;
        private int value;
        private int place;

        void take(int number) {
            for (int shift = 24; shift >= 0 && taped < MOST_TAPE; shift -= 8) {
                tape[taped] = (byte) (number >> shift);
                taped++;
            }
        }

        /** Whether the first n bytes are a TEXT; the TAPE is empty then in any case. */
        boolean reads(int n) {
            end = Math.min(n, MOST_TAPE);
            at = 0;
            taped = 0;
            fault = 0;
            faultPlace = NONE;
            draft.clear();
            for (int line = 0; line <= MOST_TAPE; line++) {
                advance();
                if (kind == END) {
                    break;
                }
                if (!readLine() || !readClose()) {
                    return false;
                }
                draft.lines++;
            }
            return true;
        }

        private boolean wrong(int number) {
            fault = number;
            faultPlace = place;
            return false;
        }

        private void advance() {
            while (at < end && (tape[at] == 10 || tape[at] == 32)) {
                at++;
            }
            place = at;
            value = 0;
            kind = at < end ? BAD : END;
            int shift = 25;
            while (at < end && tape[at] >= 'a' && tape[at] <= 'z') {
                value |= shift >= 0 ? tape[at] - 'a' + 1 << shift : 0;
                shift -= 5;
                kind = shift < -5 ? BAD : WORD;
                at++;
            }
            if (at > place) {
                return;
            }
            while (at < end && tape[at] >= '0' && tape[at] <= '9') {
                // Beyond the greatest bound it grows no more: it is too much already.
                value = value <= MOST_SEED ? value * 10 + tape[at] - '0' : value;
                kind = NUMBER;
                at++;
            }
            if (at == place && at < end) {
                kind = tape[at] == ';' ? CLOSE : BAD;
                at++;
            }
        }

        private boolean readLine() {
            if (kind != WORD) {
                return wrong(1);
            }
            switch (value) {
                case STATE:
                    return readState();
                case INPUT:
                    return readInput();
                case MORE:
                    return readMore();
                case ARC:
                    return readArc(draft.arcs, draft.states);
                case TWIST:
                    return readArc(draft.twists, draft.states + draft.more);
                case EXTRA:
                    return readExtra();
                case SEED:
                    return readSeed();
                default:
                    return wrong(1);
            }
        }

        private boolean readClose() {
            advance();
            return kind == CLOSE || wrong(1);
        }

        private boolean readState() {
            if (draft.more > 0) {
                return wrong(1);
            }
            if (draft.states >= MOST_STATES) {
                return wrong(2);
            }
            if (!readNewName()) {
                return false;
            }
            draft.placeNames[draft.states] = value;
            draft.states++;
            return true;
        }

        private boolean readInput() {
            if (draft.inputs >= MOST_INPUTS) {
                return wrong(2);
            }
            if (!readNewName()) {
                return false;
            }
            draft.inputNames[draft.inputs] = value;
            draft.inputs++;
            return true;
        }

        private boolean readMore() {
            if (draft.states == 0) {
                return wrong(1);
            }
            if (draft.more >= MOST_MORE) {
                return wrong(2);
            }
            if (!readNewName()) {
                return false;
            }
            draft.placeNames[draft.states + draft.more] = value;
            draft.more++;
            return true;
        }

        private boolean readName() {
            advance();
            return kind == WORD && !isOfLanguage(value) || wrong(1);
        }

        private static boolean isOfLanguage(int word) {
            return word == STATE || word == INPUT || word == MORE || word == ARC || word == TWIST
                || word == EXTRA || word == SEED;
        }

        private boolean readNewName() {
            return readName() && (!draft.isTold(value) || wrong(3));
        }

        /** The number of the place that is named next, one of so many; NONE with a FAULT. */
        private int readPlace(int places) {
            if (!readName()) {
                return NONE;
            }
            int named = draft.placeNamed(value);
            if (named < 0 || named >= places) {
                wrong(4);
                return NONE;
            }
            return named;
        }

        private int readKnownInput() {
            if (!readName()) {
                return NONE;
            }
            int named = draft.inputNamed(value);
            if (named < 0) {
                wrong(4);
            }
            return named;
        }

        private boolean readArc(int[] row, int places) {
            int from = readPlace(places);
            if (from < 0) {
                return false;
            }
            int input = readKnownInput();
            if (input < 0) {
                return false;
            }
            int arc = from * MOST_INPUTS + input;
            if (row[arc] != Plan.UNTOLD) {
                return wrong(3);
            }
            int to = readPlace(places);
            if (to < 0 || !readNumber(MOST_OUTPUT)) {
                return false;
            }
            row[arc] = to << 4 | value;
            return true;
        }

        private boolean readNumber(int most) {
            advance();
            if (kind != NUMBER) {
                return wrong(1);
            }
            return value <= most || wrong(2);
        }

        private boolean readExtra() {
            if (draft.extraTold) {
                return wrong(3);
            }
            if (!readNumber(MOST_EXTRA)) {
                return false;
            }
            draft.extraTold = true;
            draft.extra = value;
            return true;
        }

        private boolean readSeed() {
            if (draft.seedTold) {
                return wrong(3);
            }
            if (!readNumber(MOST_SEED)) {
                return false;
            }
            draft.seedTold = true;
            draft.seed = value;
            return true;
        }
    }

    /** Places and ARCS; whoever sets an ARC has seen that it stays within these. */
    private static final class Machine {
        final int[] to = new int[MOST_ARCS];
        final int[] out = new int[MOST_ARCS];
        int places;
        int inputs;

        /** All ARCS lead to themselves, those beyond the places too: so a MACHINE tells what MORE are as mended. */
        void still(int newPlaces, int newInputs) {
            places = newPlaces;
            inputs = newInputs;
            for (int arc = 0; arc < MOST_ARCS; arc++) {
                to[arc] = arc / MOST_INPUTS;
                out[arc] = 0;
            }
        }

        void tellArcs(int[] row) {
            for (int arc = 0; arc < MOST_ARCS && arc < row.length; arc++) {
                if (row[arc] != Plan.UNTOLD) {
                    to[arc] = row[arc] >> 4;
                    out[arc] = row[arc] & 15;
                }
            }
        }

        boolean has(int place, int input) {
            return place >= 0 && place < places && input >= 0 && input < inputs;
        }

        int part(int place, int input, int what) {
            int arc = place * MOST_INPUTS + input;
            return what == 0 ? to[arc] : out[arc];
        }

        void set(int place, int input, int next, int output) {
            int arc = place * MOST_INPUTS + input;
            to[arc] = next;
            out[arc] = output;
        }

        void copyArcs(Machine other) {
            System.arraycopy(other.to, 0, to, 0, MOST_ARCS);
            System.arraycopy(other.out, 0, out, 0, MOST_ARCS);
        }

        void copy(Machine other) {
            copyArcs(other);
            places = other.places;
            inputs = other.inputs;
        }

        void pack(int[] row, int from) {
            for (int arc = 0; arc < MOST_ARCS && from + arc < row.length; arc++) {
                row[from + arc] = to[arc] << 4 | out[arc];
            }
        }

        void unpack(int[] row, int from) {
            for (int arc = 0; arc < MOST_ARCS && from + arc < row.length; arc++) {
                to[arc] = row[from + arc] >> 4;
                out[arc] = row[from + arc] & 15;
            }
        }

        int go(int place, int word) {
            int at = place;
            for (int left = lengthOf(word) - 1; left >= 0; left--) {
                at = to[at * MOST_INPUTS + inputAt(word, left)];
            }
            return at;
        }

        long tell(int place, int word) {
            int at = place;
            long told = 0;
            for (int left = lengthOf(word) - 1; left >= 0; left--) {
                int arc = at * MOST_INPUTS + inputAt(word, left);
                told = told * 10 + out[arc];
                at = to[arc];
            }
            return told;
        }

        int arcsUnlike(Machine other) {
            int unlike = 0;
            for (int p = 0; p < places; p++) {
                for (int i = 0; i < inputs; i++) {
                    int arc = p * MOST_INPUTS + i;
                    if (to[arc] != other.to[arc] || out[arc] != other.out[arc]) {
                        unlike++;
                    }
                }
            }
            return unlike;
        }

        int placesReached() {
            int seen = places > 0 ? 1 : 0;
            // Each round but the last one finds a place more.
            for (int round = 0; round < places; round++) {
                for (int p = 0; p < places; p++) {
                    for (int i = 0; i < inputs && (seen >> p & 1) == 1; i++) {
                        seen |= 1 << to[p * MOST_INPUTS + i];
                    }
                }
            }
            return Integer.bitCount(seen);
        }
    }

    /** What is told of the MACHINE's STATES by themselves and by twos. */
    private static final class Traits {
        private final Machine meant;
        final int[] access = new int[MOST_STATES];
        final int[] separators = new int[MOST_STATES * MOST_STATES];
        final int[] kinds = new int[MOST_STATES];
        final int[] splitters = new int[MOST_STATES];
        final int[] marks = new int[MOST_STATES * MOST_STATES];
        final int[] markCounts = new int[MOST_STATES];
        private final int[] queue = new int[MOST_STATES];
        int reached;
        int kindCount;
        int splitterCount;
        int top;

        Traits(Machine machine) {
            meant = machine;
        }

        void learn() {
            learnTop();
            learnAccess();
            learnSeparators();
            learnKinds();
            learnSplitters();
            for (int s = 0; s < meant.places; s++) {
                learnMarks(s);
            }
        }

        boolean isReached(int state) {
            return (reached >> state & 1) == 1;
        }

        private boolean areAlike(int one, int other) {
            return separators[one * MOST_STATES + other] == NOT;
        }

        private void learnTop() {
            top = 1;
            for (int arc = 0; arc < MOST_ARCS; arc++) {
                top = Math.max(top, meant.out[arc]);
            }
        }

        private void learnAccess() {
            Arrays.fill(access, NOT);
            reached = 0;
            int tail = 0;
            if (meant.places > 0) {
                access[0] = 0;
                reached = 1;
                queue[0] = 0;
                tail = 1;
            }
            for (int head = 0; head < tail && head < MOST_STATES; head++) {
                int from = queue[head];
                for (int i = 0; i < meant.inputs; i++) {
                    int next = meant.to[from * MOST_INPUTS + i];
                    if (!isReached(next) && tail < MOST_STATES) {
                        reached |= 1 << next;
                        access[next] = access[from] * 4 + i + 1;
                        queue[tail] = next;
                        tail++;
                    }
                }
            }
        }

        /** Round by round those that so many INPUTS tell apart, and no fewer. */
        private void learnSeparators() {
            Arrays.fill(separators, NOT);
            for (int length = 1; length < MOST_STATES; length++) {
                for (int one = 0; one < meant.places; one++) {
                    for (int other = one + 1; other < meant.places; other++) {
                        if (areAlike(one, other)) {
                            int found = separatorOfLength(one, other, length);
                            separators[one * MOST_STATES + other] = found;
                            separators[other * MOST_STATES + one] = found;
                        }
                    }
                }
            }
        }

        private int separatorOfLength(int one, int other, int length) {
            for (int i = 0; i < meant.inputs; i++) {
                int arc = one * MOST_INPUTS + i;
                int otherArc = other * MOST_INPUTS + i;
                if (meant.out[arc] != meant.out[otherArc]) {
                    return i + 1;
                }
                int behind = separators[meant.to[arc] * MOST_STATES + meant.to[otherArc]];
                if (behind > 0 && lengthOf(behind) == length - 1) {
                    return i + 1 << 2 * (length - 1) | behind;
                }
            }
            return NOT;
        }

        private void learnKinds() {
            kindCount = 0;
            for (int s = 0; s < meant.places; s++) {
                kinds[s] = s;
                boolean fresh = isReached(s);
                for (int ahead = s - 1; ahead >= 0; ahead--) {
                    if (areAlike(ahead, s)) {
                        kinds[s] = ahead;
                        fresh = fresh && !isReached(ahead);
                    }
                }
                if (fresh) {
                    kindCount++;
                }
            }
        }

        private void learnSplitters() {
            splitterCount = 0;
            for (int one = 0; one < meant.places; one++) {
                for (int other = one + 1; other < meant.places; other++) {
                    if (isReached(one) && isReached(other) && !areAlike(one, other) && !areSplit(one, other)
                        && splitterCount < MOST_STATES) {
                        splitters[splitterCount] = separators[one * MOST_STATES + other];
                        splitterCount++;
                    }
                }
            }
            if (splitterCount == 0 && meant.places > 0) {
                splitters[0] = 0;
                splitterCount = 1;
            }
        }

        private boolean areSplit(int one, int other) {
            for (int k = 0; k < splitterCount; k++) {
                if (meant.tell(one, splitters[k]) != meant.tell(other, splitters[k])) {
                    return true;
                }
            }
            return false;
        }

        private void learnMarks(int state) {
            markCounts[state] = 0;
            for (int other = 0; other < meant.places; other++) {
                if (isReached(other) && !areAlike(state, other)) {
                    addMark(state, separators[state * MOST_STATES + other]);
                }
            }
            if (markCounts[state] == 0) {
                addMark(state, 0);
            }
        }

        private void addMark(int state, int word) {
            int first = state * MOST_STATES;
            int count = markCounts[state];
            for (int k = 0; k < count; k++) {
                if (marks[first + k] == word) {
                    return;
                }
            }
            if (count >= MOST_STATES) {
                return;
            }
            int k = count;
            while (k > 0 && marks[first + k - 1] > word) {
                marks[first + k] = marks[first + k - 1];
                k--;
            }
            marks[first + k] = word;
            markCounts[state] = count + 1;
        }
    }

    /**
     * First WORDS, found by going through spots in the order of the WORDS that come to them: what is known behind
     * a WORD, as a number. A spot that was come to already is left out: the WORD ahead does all that this one can.
     */
    private static final class Search {
        private static final int WITHIN = 8;
        private static final int SHORTER_THAN_WITHIN = 1 << 2 * (WITHIN - 1);
        // 1 and 3 and 9 .. and 2187: WORDS of less than 8 INPUTS.
        private static final int MOST_SPOTS = 3280;
        private static final int SPOT_NUMBERS = 1 << 18;
        private static final int UNKNOWN = -9;
        private static final int DEAD = -1;
        private static final int PRESET = 0;
        private static final int HOMING = 1;
        private static final int TOO_DEEP = 99;

        private final Machine meant;
        private final Traits traits;
        private final int[] spots = new int[MOST_SPOTS];
        private final int[] paths = new int[MOST_SPOTS];
        private final int[] seen = new int[SPOT_NUMBERS / 32];
        private final int[] signs = new int[MOST_STATES];
        private final int[] words = new int[3];
        private final int[] depths = new int[1 << MOST_STATES];
        private final int[] firsts = new int[1 << MOST_STATES];
        private boolean treesKnown;
        private int tail;

        Search(Machine machine, Traits known) {
            meant = machine;
            traits = known;
        }

        void renew() {
            Arrays.fill(signs, UNKNOWN);
            Arrays.fill(words, UNKNOWN);
            treesKnown = false;
        }

        private void push(int spot, int path) {
            if (spot < 0 || spot >= SPOT_NUMBERS || tail >= MOST_SPOTS) {
                return;
            }
            int bit = 1 << (spot & 31);
            if ((seen[spot >> 5] & bit) == 0) {
                seen[spot >> 5] |= bit;
                spots[tail] = spot;
                paths[tail] = path;
                tail++;
            }
        }

        /** Only what was seen is cleared: that is far less than all. */
        private void leave() {
            for (int k = 0; k < tail; k++) {
                seen[spots[k] >> 5] = 0;
            }
            tail = 0;
        }

        /** FIRST UNLIKE of two machines; NOT, if they are EQUAL. */
        int unlike(Machine one, Machine other) {
            int found = NOT;
            if (one.places > 0 && other.places > 0) {
                push(0, 0);
            }
            for (int head = 0; head < tail && head < MOST_SPOTS && found == NOT; head++) {
                int from = (spots[head] >> 3) * MOST_INPUTS;
                int otherFrom = (spots[head] & 7) * MOST_INPUTS;
                for (int i = 0; i < one.inputs && found == NOT; i++) {
                    int path = paths[head] * 4 + i + 1;
                    if (one.out[from + i] != other.out[otherFrom + i]) {
                        found = path;
                    }
                    push(one.to[from + i] << 3 | other.to[otherFrom + i], path);
                }
            }
            leave();
            return found;
        }

        int signOf(int state) {
            if (signs[state] == UNKNOWN) {
                signs[state] = findSign(state);
            }
            return signs[state];
        }

        /** A spot: the STATE where one is, and by bits those where others with the same ANSWER are. */
        private int findSign(int state) {
            int others = traits.reached & ~(1 << state);
            if (others == 0) {
                return 0;
            }
            int found = NOT;
            push(others << 3 | state, 0);
            for (int head = 0; head < tail && head < MOST_SPOTS && found == NOT; head++) {
                for (int i = 0; i < meant.inputs && found == NOT; i++) {
                    int path = paths[head] * 4 + i + 1;
                    int next = followSign(spots[head], i);
                    if (next != DEAD && next >> 3 == 0) {
                        found = path;
                    } else if (path < SHORTER_THAN_WITHIN) {
                        push(next, path);
                    }
                }
            }
            leave();
            return found;
        }

        private int followSign(int spot, int input) {
            int arc = (spot & 7) * MOST_INPUTS + input;
            int others = 0;
            for (int s = 0; s < meant.places; s++) {
                int otherArc = s * MOST_INPUTS + input;
                if ((spot >> 3 + s & 1) == 1 && meant.out[otherArc] == meant.out[arc]) {
                    others |= 1 << meant.to[otherArc];
                }
            }
            // Two that are in one STATE are told apart no more.
            if ((others >> meant.to[arc] & 1) == 1) {
                return DEAD;
            }
            return others << 3 | meant.to[arc];
        }

        int wordForAll(int what) {
            if (words[what] == UNKNOWN) {
                words[what] = findForAll(what);
            }
            return words[what];
        }

        /** A spot: of GATHER where all are, by bits, else groups of those with the same ANSWER, 6 bits each. */
        private int findForAll(int what) {
            if (Integer.bitCount(traits.reached) < 2) {
                return 0;
            }
            int found = NOT;
            push(traits.reached, 0);
            for (int head = 0; head < tail && head < MOST_SPOTS && found == NOT; head++) {
                for (int i = 0; i < meant.inputs && found == NOT; i++) {
                    int path = paths[head] * 4 + i + 1;
                    int next = what == PRESET || what == HOMING
                        ? followGroups(spots[head], i, what == PRESET) : followAll(spots[head], i);
                    if (next == 0) {
                        found = path;
                    } else if (path < SHORTER_THAN_WITHIN) {
                        push(next, path);
                    }
                }
            }
            leave();
            return found;
        }

        /** Where all are then; 0, if that is one STATE. */
        private int followAll(int set, int input) {
            int next = 0;
            for (int s = 0; s < meant.places; s++) {
                if ((set >> s & 1) == 1) {
                    next |= 1 << meant.to[s * MOST_INPUTS + input];
                }
            }
            return Integer.bitCount(next) < 2 ? 0 : next;
        }

        /** The groups of two and more that are left then; DEAD, if two meet that must be told apart. */
        private int followGroups(int groups, int input, boolean apart) {
            int next = 0;
            for (int shift = 0; shift < 18; shift += 6) {
                int left = groups >> shift & 63;
                for (int s = 0; s < meant.places; s++) {
                    if ((left >> s & 1) == 1) {
                        int like = likeOnes(left, s, input);
                        int ends = followAll(like, input);
                        if (apart && Integer.bitCount(like) > Math.max(1, Integer.bitCount(ends))) {
                            return DEAD;
                        }
                        next = ends == 0 ? next : withGroup(next, ends);
                        left &= ~like;
                    }
                }
            }
            return next;
        }

        /** Those of a set that answer an INPUT as this one does. */
        private int likeOnes(int set, int state, int input) {
            int output = meant.out[state * MOST_INPUTS + input];
            int like = 0;
            for (int s = 0; s < meant.places; s++) {
                if ((set >> s & 1) == 1 && meant.out[s * MOST_INPUTS + input] == output) {
                    like |= 1 << s;
                }
            }
            return like;
        }

        /** Groups stand once each and in order, so that the same ones are the same number: three at most, of six. */
        private static int withGroup(int groups, int group) {
            int a = groups & 63;
            int b = groups >> 6 & 63;
            int c = groups >> 12 & 63;
            if (group == a || group == b || group == c) {
                return groups;
            }
            if (group > a) {
                return group | a << 6 | b << 12;
            }
            if (group > b) {
                return a | group << 6 | b << 12;
            }
            return a | b << 6 | group << 12;
        }

        int treeDepth(int set) {
            learnTrees();
            return depths[set];
        }

        int treeInput(int set) {
            learnTrees();
            return firsts[set];
        }

        private void learnTrees() {
            if (treesKnown) {
                return;
            }
            treesKnown = true;
            int sets = 1 << Math.min(meant.places, MOST_STATES);
            for (int set = 0; set < sets; set++) {
                depths[set] = Integer.bitCount(set) < 2 ? 0 : NOT;
                firsts[set] = NOT;
            }
            for (int depth = 1; depth <= WITHIN; depth++) {
                for (int set = 0; set < sets; set++) {
                    if (depths[set] == NOT) {
                        learnTree(set, depth);
                    }
                }
            }
        }

        private void learnTree(int set, int depth) {
            for (int i = 0; i < meant.inputs; i++) {
                if (depthBehind(set, i) < depth) {
                    depths[set] = depth;
                    firsts[set] = i;
                    return;
                }
            }
        }

        private int depthBehind(int set, int input) {
            int worst = 0;
            int left = set;
            for (int s = 0; s < meant.places; s++) {
                if ((left >> s & 1) == 1) {
                    int like = likeOnes(left, s, input);
                    int ends = followAll(like, input);
                    if (Integer.bitCount(like) > Math.max(1, Integer.bitCount(ends)) || depths[ends] == NOT) {
                        return TOO_DEEP;
                    }
                    worst = Math.max(worst, depths[ends]);
                    left &= ~like;
                }
            }
            return worst;
        }
    }

    /**
     * TESTS as one tree, its nodes behind those from which they come, node 0 the WORD without INPUTS:
     * what TESTS begin with in common is tried once.
     */
    private static final class Tests {
        final int[] up;
        final int[] by;
        final int[] want;
        final int[] ends;
        final int[] words;
        final int[] sizes;
        private final int[] at;
        int nodes;
        int count;
        boolean known;

        Tests(int mostNodes, int mostTests, int[] scratch) {
            up = new int[mostNodes];
            by = new int[mostNodes];
            want = new int[mostNodes];
            ends = new int[mostTests];
            words = new int[mostTests];
            sizes = new int[mostTests];
            at = scratch;
        }

        void clear() {
            nodes = 0;
            count = 0;
            known = false;
        }

        void addNode(int from, int input, int output) {
            if (nodes < up.length && nodes < at.length) {
                up[nodes] = from;
                by[nodes] = input;
                want[nodes] = output;
                nodes++;
            }
        }

        void addTest(int end, int word, int size) {
            if (count < ends.length) {
                ends[count] = end;
                words[count] = word;
                sizes[count] = size;
                count++;
            }
        }

        int inputsInSum() {
            int sum = 0;
            for (int k = 0; k < count; k++) {
                sum += sizes[k];
            }
            return sum;
        }

        int mostInputs() {
            int most = 0;
            for (int k = 0; k < count; k++) {
                most = Math.max(most, sizes[k]);
            }
            return most;
        }

        /** Where a machine is at each node; NONE at and behind an OUTPUT that isn't the MACHINE's. */
        void run(Machine tried) {
            at[0] = 0;
            for (int node = 1; node < nodes; node++) {
                at[node] = step(tried, node);
            }
        }

        private int step(Machine tried, int node) {
            int from = at[up[node]];
            if (from < 0) {
                return NONE;
            }
            int arc = from * MOST_INPUTS + by[node];
            return tried.out[arc] == want[node] ? tried.to[arc] : NONE;
        }

        boolean isFailedBy(Machine tried) {
            at[0] = 0;
            for (int node = 1; node < nodes; node++) {
                at[node] = step(tried, node);
                if (at[node] < 0) {
                    return true;
                }
            }
            return false;
        }

        /** Of the machine that was run. */
        boolean isFailed(int test) {
            return at[ends[test]] < 0;
        }

        int failures() {
            int failed = 0;
            for (int k = 0; k < count; k++) {
                if (isFailed(k)) {
                    failed++;
                }
            }
            return failed;
        }

        int firstFailure() {
            for (int k = 0; k < count; k++) {
                if (isFailed(k)) {
                    return k;
                }
            }
            return NONE;
        }

        private int stepsBehindWrong(int test) {
            int node = ends[test];
            int steps = 0;
            while (steps < sizes[test] && at[up[node]] < 0) {
                node = up[node];
                steps++;
            }
            return steps;
        }

        int wrongPlace(int test) {
            return sizes[test] - 1 - stepsBehindWrong(test);
        }

        int wrongOutput(int test, Machine tried) {
            int node = ends[test];
            int behind = stepsBehindWrong(test);
            for (int k = 0; k < behind; k++) {
                node = up[node];
            }
            int from = at[up[node]];
            return from < 0 ? NONE : tried.out[from * MOST_INPUTS + by[node]];
        }
    }

    /** Makes the TESTS of all SUITES, each when it is first asked for. */
    private static final class Suites {
        private static final int NS = MOST_EXTRA + 1;
        // HEADS that aren't the same are 19, 58, 175 at most; 5 WORDS of 5 INPUTS at most are behind each.
        private static final int[] MOST_HEADS = {19, 58, 175};
        private static final int MOST_BEHIND = 5;
        private static final int NODES_A_HEAD = 26;
        private static final int MOST_NODES = 175 * NODES_A_HEAD;
        // 6 WORDS, and 1, 3, 9, 27 of INPUTS behind each.
        private static final int HEADS_TOLD = 6 * 40;

        private final Machine meant;
        private final Traits traits;
        private final Walk walk;
        private final Tests[] all = new Tests[2 * NS + 2];
        private final int[] down = new int[MOST_NODES * MOST_INPUTS];
        private final int[] states = new int[MOST_NODES];
        private final int[] order = new int[MOST_NODES];
        private final int[] numbers = new int[MOST_NODES];
        private final int[] heads = new int[HEADS_TOLD];
        private int headCount;
        private int grown;
        private int extra;

        Suites(Machine machine, Traits known, Search search) {
            meant = machine;
            traits = known;
            walk = new Walk(machine, search);
            int[] at = new int[MOST_NODES];
            for (int n = 0; n < NS; n++) {
                int nodes = MOST_HEADS[n] * NODES_A_HEAD;
                int tests = MOST_HEADS[n] * MOST_BEHIND;
                all[n] = new Tests(nodes, tests, at);
                all[NS + n] = new Tests(nodes, tests, at);
            }
            all[2 * NS] = new Tests(Walk.MOST_STEPS + 1, 1, at);
            all[2 * NS + 1] = new Tests(Walk.MOST_STEPS + 1, 1, at);
        }

        void renew(int newExtra) {
            extra = newExtra;
            for (int k = 0; k < all.length; k++) {
                all[k].clear();
            }
        }

        Tests give(int suite) {
            if (suite < 2) {
                return planned(suite, extra);
            }
            Tests tests = all[2 * NS + suite - 2];
            if (!tests.known) {
                tests.known = true;
                walk.fill(tests, suite == 3);
            }
            return tests;
        }

        /** SUITE 0 or 1 for n. */
        Tests planned(int suite, int n) {
            Tests tests = all[suite * NS + n];
            if (!tests.known) {
                tests.known = true;
                if (meant.places > 0) {
                    grow(suite, n);
                    pour(tests);
                }
            }
            return tests;
        }

        private void grow(int suite, int n) {
            for (int i = 0; i < MOST_INPUTS; i++) {
                down[i] = 0;
            }
            states[0] = 0;
            grown = 1;
            growHeads(n);
            for (int k = 0; k < headCount; k++) {
                if (suite == 0) {
                    growAll(heads[k], traits.splitters, 0, traits.splitterCount);
                } else {
                    int state = states[heads[k]];
                    growAll(heads[k], traits.marks, state * MOST_STATES, traits.markCounts[state]);
                }
            }
        }

        private void growHeads(int n) {
            headCount = 0;
            for (int s = 0; s < meant.places; s++) {
                if (traits.isReached(s)) {
                    addHead(growWord(0, traits.access[s]));
                }
            }
            int from = 0;
            for (int more = 0; more <= n; more++) {
                int end = headCount;
                for (int k = from; k < end; k++) {
                    for (int i = 0; i < meant.inputs; i++) {
                        addHead(growChild(heads[k], i));
                    }
                }
                from = end;
            }
        }

        private void addHead(int node) {
            if (headCount < HEADS_TOLD) {
                heads[headCount] = node;
                headCount++;
            }
        }

        private void growAll(int node, int[] row, int from, int count) {
            for (int k = 0; k < count && from + k < row.length; k++) {
                growWord(node, row[from + k]);
            }
        }

        private int growWord(int node, int word) {
            int at = node;
            for (int left = lengthOf(word) - 1; left >= 0; left--) {
                at = growChild(at, inputAt(word, left));
            }
            return at;
        }

        private int growChild(int node, int input) {
            int link = node * MOST_INPUTS + input;
            if (down[link] == 0 && grown < MOST_NODES) {
                down[link] = grown;
                states[grown] = meant.to[states[node] * MOST_INPUTS + input];
                for (int i = 0; i < MOST_INPUTS; i++) {
                    down[grown * MOST_INPUTS + i] = 0;
                }
                grown++;
            }
            return down[link];
        }

        /** Level by level, INPUT by INPUT: that is the order of WORDS. Where nothing comes behind, a TEST ends. */
        private void pour(Tests tests) {
            int tail = 1;
            order[0] = 0;
            numbers[0] = 0;
            tests.addNode(0, 0, 0);
            for (int head = 0; head < tail && head < MOST_NODES; head++) {
                int node = order[head];
                boolean ends = true;
                for (int i = 0; i < meant.inputs; i++) {
                    int child = down[node * MOST_INPUTS + i];
                    if (child > 0 && tail < MOST_NODES) {
                        ends = false;
                        order[tail] = child;
                        numbers[tail] = numbers[head] * 4 + i + 1;
                        tail++;
                        tests.addNode(head, i, meant.out[states[node] * MOST_INPUTS + i]);
                    }
                }
                if (ends) {
                    tests.addTest(head, numbers[head], lengthOf(numbers[head]));
                }
            }
        }
    }

    /** Goes the TOUR and the CHECK. */
    private static final class Walk {
        // Each of 18 WORDS takes an ARC more, has 6 INPUTS at most, and a SIGN of 8 at most behind it.
        static final int MOST_WORDS = 18;
        static final int MOST_STEPS = MOST_WORDS * 14;

        private final Machine meant;
        private final Search search;
        private final int[] queue = new int[MOST_STATES];
        private final int[] paths = new int[MOST_STATES];
        private int taken;
        private int stand;

        Walk(Machine machine, Search words) {
            meant = machine;
            search = words;
        }

        void fill(Tests chain, boolean withSigns) {
            if (meant.places == 0) {
                return;
            }
            taken = 0;
            stand = 0;
            chain.addNode(0, 0, 0);
            for (int turn = 0; turn < MOST_WORDS; turn++) {
                int word = wordToNew();
                if (word < 0) {
                    break;
                }
                take(chain, word);
                int sign = withSigns ? search.signOf(stand) : 0;
                if (sign > 0) {
                    take(chain, sign);
                }
            }
            chain.addTest(chain.nodes - 1, 0, chain.nodes - 1);
        }

        private void take(Tests chain, int word) {
            for (int left = lengthOf(word) - 1; left >= 0; left--) {
                int input = inputAt(word, left);
                int arc = stand * MOST_INPUTS + input;
                taken |= 1 << arc;
                chain.addNode(chain.nodes - 1, input, meant.out[arc]);
                stand = meant.to[arc];
            }
        }

        /** The first WORD from where one stands whose last ARC isn't taken; NONE: there is none. */
        private int wordToNew() {
            int seen = 1 << stand;
            int tail = 1;
            queue[0] = stand;
            paths[0] = 0;
            for (int head = 0; head < tail && head < MOST_STATES; head++) {
                for (int i = 0; i < meant.inputs; i++) {
                    int arc = queue[head] * MOST_INPUTS + i;
                    int path = paths[head] * 4 + i + 1;
                    if ((taken >> arc & 1) == 0) {
                        return path;
                    }
                    int next = meant.to[arc];
                    if ((seen >> next & 1) == 0 && tail < MOST_STATES) {
                        seen |= 1 << next;
                        queue[tail] = next;
                        paths[tail] = path;
                        tail++;
                    }
                }
            }
            return NONE;
        }
    }

    /** MUTANTS and SMALL ones, and what SUITES notice of them. */
    private static final class Mutants {
        private static final int UNKNOWN = -9;
        private static final int ROW = 8;
        private static final int MOST_TESTS = 875;

        private final Machine meant;
        private final Traits traits;
        private final Search search;
        private final Machine trial = new Machine();
        private final Machine other = new Machine();
        private final int[] codes = new int[MOST_MUTANTS];
        private final boolean[] equal = new boolean[MOST_MUTANTS];
        private final int[] noticed = new int[4];
        private final int[] missed = new int[4];
        private final int[] covers = new int[2];
        private final int[] passing = new int[4];
        private final int[] same = new int[4];
        private final int[] failing = new int[MOST_TESTS * ROW];
        private final int[] left = new int[ROW];
        private int equalCount;
        int count;

        Mutants(Machine machine, Traits known, Search words) {
            meant = machine;
            traits = known;
            search = words;
        }

        void list() {
            Arrays.fill(noticed, UNKNOWN);
            Arrays.fill(covers, UNKNOWN);
            Arrays.fill(passing, UNKNOWN);
            equalCount = UNKNOWN;
            count = 0;
            for (int s = 0; s < meant.places; s++) {
                for (int i = 0; i < meant.inputs; i++) {
                    if (traits.isReached(s)) {
                        listArc(s * MOST_INPUTS + i);
                    }
                }
            }
        }

        private void listArc(int arc) {
            int to = meant.to[arc];
            int out = meant.out[arc];
            for (int next = 0; next < meant.places; next++) {
                if (next != to) {
                    add(arc << 8 | next << 4 | out);
                }
            }
            for (int output = 0; output <= traits.top; output++) {
                if (output != out) {
                    add(arc << 8 | to << 4 | output);
                }
            }
        }

        private void add(int code) {
            if (count < MOST_MUTANTS) {
                codes[count] = code;
                count++;
            }
        }

        boolean has(int k) {
            return k >= 0 && k < count;
        }

        /** The ARC, the next STATE and the OUTPUT, 4 bits each of the last two. */
        int code(int k) {
            return codes[k];
        }

        int part(int k, int what) {
            int arc = codes[k] >> 8;
            switch (what) {
                case 0:
                    return arc / MOST_INPUTS;
                case 1:
                    return arc % MOST_INPUTS;
                case 2:
                    return codes[k] >> 4 & 15;
                default:
                    return codes[k] & 15;
            }
        }

        /** Makes of the MACHINE the k-th MUTANT. */
        void dress(Machine machine, int k) {
            int arc = codes[k] >> 8;
            machine.to[arc] = codes[k] >> 4 & 15;
            machine.out[arc] = codes[k] & 15;
        }

        void undress(Machine machine, int k) {
            int arc = codes[k] >> 8;
            machine.to[arc] = meant.to[arc];
            machine.out[arc] = meant.out[arc];
        }

        int unlikeOnes(int k, int k2) {
            trial.copy(meant);
            dress(trial, k);
            other.copy(meant);
            dress(other, k2);
            return search.unlike(trial, other);
        }

        int equalOnes() {
            if (equalCount == UNKNOWN) {
                equalCount = 0;
                trial.copy(meant);
                for (int k = 0; k < count; k++) {
                    dress(trial, k);
                    equal[k] = search.unlike(meant, trial) == NOT;
                    equalCount += equal[k] ? 1 : 0;
                    undress(trial, k);
                }
            }
            return equalCount;
        }

        int noticedBy(int suite, Tests tests) {
            learnNoticed(suite, tests);
            return noticed[suite];
        }

        int firstMissedBy(int suite, Tests tests) {
            learnNoticed(suite, tests);
            return missed[suite];
        }

        private void learnNoticed(int suite, Tests tests) {
            if (noticed[suite] != UNKNOWN) {
                return;
            }
            equalOnes();
            noticed[suite] = 0;
            missed[suite] = NOT;
            trial.copy(meant);
            for (int k = 0; k < count; k++) {
                dress(trial, k);
                // EQUAL ones fail no TEST.
                if (!equal[k]) {
                    if (tests.isFailedBy(trial)) {
                        noticed[suite]++;
                    } else if (missed[suite] == NOT) {
                        missed[suite] = k;
                    }
                }
                undress(trial, k);
            }
        }

        int coveredBy(int suite, Tests tests) {
            if (covers[suite] == UNKNOWN) {
                covers[suite] = cover(tests);
            }
            return covers[suite];
        }

        private int cover(Tests tests) {
            int rows = Math.min(tests.count, MOST_TESTS);
            learnFailing(tests, rows);
            int taken = 0;
            // Each TEST that is taken leaves fewer MUTANTS.
            for (int turn = 0; turn < MOST_MUTANTS; turn++) {
                int best = bestTest(rows);
                if (best < 0) {
                    break;
                }
                for (int part = 0; part < ROW; part++) {
                    left[part] &= ~failing[best * ROW + part];
                }
                taken++;
            }
            return taken;
        }

        /** By bits: of each TEST the MUTANTS that FAIL it; all of these are left at first. */
        private void learnFailing(Tests tests, int rows) {
            Arrays.fill(failing, 0);
            Arrays.fill(left, 0);
            trial.copy(meant);
            for (int k = 0; k < count; k++) {
                dress(trial, k);
                tests.run(trial);
                for (int test = 0; test < rows; test++) {
                    if (tests.isFailed(test)) {
                        failing[test * ROW + (k >> 5)] |= 1 << (k & 31);
                        left[k >> 5] |= 1 << (k & 31);
                    }
                }
                undress(trial, k);
            }
        }

        private int bestTest(int rows) {
            int best = NONE;
            int most = 0;
            for (int test = 0; test < rows; test++) {
                int notices = 0;
                for (int part = 0; part < ROW; part++) {
                    notices += Integer.bitCount(failing[test * ROW + part] & left[part]);
                }
                if (notices > most) {
                    most = notices;
                    best = test;
                }
            }
            return best;
        }

        int smallOnes(int k) {
            int all = 1;
            for (int arc = 0; arc < k * meant.inputs; arc++) {
                all *= 2 * k;
            }
            return all;
        }

        int smallPassing(int k, int suite, Tests tests) {
            learnSmall(k, suite, tests);
            return passing[(k - 1) * 2 + suite];
        }

        int smallEqual(int k, int suite, Tests tests) {
            learnSmall(k, suite, tests);
            return same[(k - 1) * 2 + suite];
        }

        private void learnSmall(int k, int suite, Tests tests) {
            int slot = (k - 1) * 2 + suite;
            if (passing[slot] != UNKNOWN) {
                return;
            }
            passing[slot] = 0;
            same[slot] = 0;
            int all = smallOnes(k);
            for (int number = 0; number < all; number++) {
                makeSmall(k, number);
                // EQUAL ones fail no TEST: they are among those that pass.
                if (!tests.isFailedBy(trial)) {
                    passing[slot]++;
                    same[slot] += search.unlike(meant, trial) == NOT ? 1 : 0;
                }
            }
        }

        private void makeSmall(int k, int number) {
            trial.places = k;
            trial.inputs = meant.inputs;
            int rest = number;
            for (int p = 0; p < k; p++) {
                for (int i = 0; i < meant.inputs; i++) {
                    // k is 1 or 2: an ARC has a bit for the OUTPUT and, of two places, one for the next.
                    trial.set(p, i, k == 2 ? rest >> 1 & 1 : 0, rest & 1);
                    rest = rest >> k;
                }
            }
        }
    }

    /** WORDS that were asked, with ANSWERS. */
    private static final class Log {
        final int[] words = new int[MOST_LOG];
        final long[] answers = new long[MOST_LOG];
        int count;

        void add(int word, long told) {
            if (count < MOST_LOG) {
                words[count] = word;
                answers[count] = told;
                count++;
            }
        }

        void copy(Log other) {
            System.arraycopy(other.words, 0, words, 0, MOST_LOG);
            System.arraycopy(other.answers, 0, answers, 0, MOST_LOG);
            count = other.count;
        }

        boolean fits(Machine machine) {
            for (int k = 0; k < count; k++) {
                if (machine.tell(0, words[k]) != answers[k]) {
                    return false;
                }
            }
            return true;
        }
    }

    /** Who is suspected by THE LOG, and what to ask next. */
    private static final class Suspects {
        private static final int CROWD = 40;
        private static final int OUTPUTS = MOST_OUTPUT + 1;
        private static final int NO_ARC = 255 << 8;

        private final Machine meant;
        private final Mutants mutants;
        private final Log log;
        private final Machine trial = new Machine();
        private final int[] numbers = new int[MOST_MUTANTS + 1];
        private final int[] codes = new int[CROWD];
        // Of each WORD that the TEST at hand begins with: where each one is, and with whom its ANSWER is alike.
        private final int[] begun = new int[LONGEST_WORD + 1];
        private final int[] at = new int[(LONGEST_WORD + 1) * CROWD];
        private final int[] groups = new int[(LONGEST_WORD + 1) * CROWD];
        private final int[] groupOf = new int[CROWD * OUTPUTS];
        private final int[] stamps = new int[CROWD * OUTPUTS];
        private final int[] sizes = new int[CROWD];
        private int stamp;
        private int crowd;
        private int count;
        private int nextFound;
        private boolean known;
        private boolean nextKnown;

        Suspects(Machine machine, Mutants ones, Log asked) {
            meant = machine;
            mutants = ones;
            log = asked;
        }

        void renew() {
            known = false;
            nextKnown = false;
        }

        private void learn() {
            if (known) {
                return;
            }
            known = true;
            count = 0;
            trial.copy(meant);
            for (int k = 0; k < mutants.count; k++) {
                mutants.dress(trial, k);
                addIfFitting(k);
                mutants.undress(trial, k);
            }
            if (meant.places > 0) {
                addIfFitting(THE_MACHINE);
            }
        }

        private void addIfFitting(int number) {
            if (count < numbers.length && log.fits(trial)) {
                numbers[count] = number;
                count++;
            }
        }

        int machineAmong() {
            learn();
            return count > 0 && numbers[count - 1] == THE_MACHINE ? 1 : 0;
        }

        int all() {
            learn();
            return count;
        }

        int number(int k) {
            learn();
            return k < count ? numbers[k] : NOT;
        }

        int nextWord(Tests tests) {
            if (!nextKnown) {
                nextKnown = true;
                nextFound = findNext(tests);
            }
            return nextFound;
        }

        private int findNext(Tests tests) {
            gatherCrowd();
            int found = NOT;
            int least = CROWD + 1;
            // With all ANSWERS unlike none can be better.
            for (int k = 0; k < tests.count && least > 1; k++) {
                int greatest = greatestGroup(tests.words[k], tests.sizes[k]);
                if (greatest < least) {
                    least = greatest;
                    found = tests.words[k];
                }
            }
            return found;
        }

        private void gatherCrowd() {
            crowd = Math.min(count, CROWD);
            Arrays.fill(begun, NONE);
            for (int s = 0; s < crowd; s++) {
                codes[s] = numbers[s] == THE_MACHINE ? NO_ARC : mutants.code(numbers[s]);
                at[s] = 0;
                groups[s] = 0;
            }
        }

        private int greatestGroup(int word, int size) {
            int depth = Math.min(size, LONGEST_WORD);
            int goal = depth;
            // TESTS in a row begin alike: what is known of the same beginning is used again.
            while (depth > 0 && begun[depth] != word >> 2 * (goal - depth)) {
                depth--;
            }
            for (; depth < goal; depth++) {
                split(depth, inputAt(word, goal - depth - 1));
                begun[depth + 1] = word >> 2 * (goal - depth - 1);
            }
            Arrays.fill(sizes, 0);
            int greatest = 0;
            for (int s = 0; s < crowd; s++) {
                int group = groups[goal * CROWD + s];
                sizes[group]++;
                greatest = Math.max(greatest, sizes[group]);
            }
            return greatest;
        }

        /** From one depth to the next one: alike are those that were alike and have the same OUTPUT now. */
        private void split(int depth, int input) {
            int from = depth * CROWD;
            int into = from + CROWD;
            int groupCount = 0;
            stamp++;
            for (int s = 0; s < crowd; s++) {
                int arc = at[from + s] * MOST_INPUTS + input;
                boolean odd = arc == codes[s] >> 8;
                int output = odd ? codes[s] & 15 : meant.out[arc];
                int key = groups[from + s] * OUTPUTS + output;
                if (stamps[key] != stamp) {
                    stamps[key] = stamp;
                    groupOf[key] = groupCount;
                    groupCount++;
                }
                groups[into + s] = groupOf[key];
                at[into + s] = odd ? codes[s] >> 4 & 15 : meant.to[arc];
            }
        }
    }
}
