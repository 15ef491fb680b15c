import java.util.Arrays;

/** A learner of finite automata, with the teacher who knows the automaton. */
public final class TableLearner {
    public static final int BAD = -2, STATE = -3, OUT = -4, FULL = -5;
    public static final int NONE = -1;

    private static final int MOST_STATES = 8;
    private static final int MOST_LETTERS = 3;
    private static final int MOST_LIES = 4;
    private static final int MOST_PREFIXES = 40;
    private static final int MOST_SUFFIXES = 16;
    private static final int MOST_QUESTIONS = 300;
    private static final int MOST_STEPS = 1000;
    private static final int LAST_MODE = 2;
    private static final int SLOTS = 2;

    /** The most letters of a word that is asked or kept, and the most bytes of the text. */
    private static final int LONGEST = 16;

    /** What 'what' names behind the letters, for a state of a machine or of the hypothesis. */
    private static final int WHETHER_FINAL = 3, WHERE_FROM = 4;

    /** What a step returns. */
    private static final int ASKED = 1, CLOSED = 2, SEPARATED = 3, FORMED = 4;
    private static final int CORRECTED = 5, LEARNED = 6, DECEIVED = 7;

    private final World world;
    private final World[] slots;
    private final int[] text;
    private int textLength;
    private final Search search;

    public TableLearner() {
        world = new World();
        slots = new World[SLOTS];
        text = new int[LONGEST];
        textLength = 0;
        search = new Search();
    }

    public int reset(int states, int letters) {
        if (states < 1 || states > MOST_STATES || letters < 1 || letters > MOST_LETTERS) {
            return BAD;
        }
        world.teacher.machine.shape(states, letters);
        world.teacher.lieCount = 0;
        world.startLearner();
        return states;
    }

    public int setMove(int state, int letter, int to) {
        Automaton machine = world.teacher.machine;
        if (!machine.hasState(state) || !machine.hasLetter(letter) || !machine.hasState(to)) {
            return BAD;
        }
        int before = machine.next(state, letter);
        machine.lead(state, letter, to);
        world.startLearner();
        return before;
    }

    public int setFinal(int state, boolean on) {
        Automaton machine = world.teacher.machine;
        if (!machine.hasState(state)) {
            return BAD;
        }
        int mark = on ? 1 : 0;
        if (machine.finals[state] == mark) {
            return STATE;
        }
        machine.finals[state] = mark;
        world.startLearner();
        return machine.countFinals();
    }

    public int lie() {
        long told = textWord();
        if (told == NONE) {
            return BAD;
        }
        Teacher teacher = world.teacher;
        if (!teacher.turnLie(told)) {
            return FULL;
        }
        world.startLearner();
        return teacher.lieCount;
    }

    public int state(int state, int what) {
        Automaton machine = world.teacher.machine;
        if (!machine.hasState(state) || !machine.hasProperty(what)) {
            return BAD;
        }
        return what == WHERE_FROM ? machine.distanceTo(state) : machine.property(state, what);
    }

    public int distinguish(int p, int q, int i) {
        Automaton machine = world.teacher.machine;
        if (!machine.hasState(p) || !machine.hasState(q) || i < NONE) {
            return BAD;
        }
        search.findsDifference(machine, p, machine, q);
        return search.letterOrLength(i);
    }

    public int leastStates() {
        Automaton machine = world.teacher.machine;
        int needed = 0;
        for (int state = 0; state < machine.size; state++) {
            if (machine.distanceTo(state) != NONE && !hasEarlierEqual(state)) {
                needed++;
            }
        }
        return needed;
    }

    public int accepts() {
        long told = textWord();
        return told == NONE ? BAD : world.teacher.machine.verdict(told);
    }

    public int type(int letter) {
        if (letter < 0 || letter > 127) {
            return BAD;
        }
        if (textLength >= LONGEST) {
            return FULL;
        }
        text[textLength] = letter;
        textLength++;
        return textLength;
    }

    public int clearText() {
        int before = textLength;
        textLength = 0;
        return before;
    }

    public int begin(int mode, int budget) {
        if (mode < 0 || mode > LAST_MODE || budget < 0 || budget > MOST_QUESTIONS) {
            return BAD;
        }
        Learner learner = world.learner;
        int before = learner.mode;
        learner.mode = mode;
        learner.budget = budget;
        world.startLearner();
        return before;
    }

    public int step() {
        return world.learner.doStep(world.teacher, search);
    }

    public int learn(int most) {
        if (most < 1 || most > MOST_STEPS) {
            return BAD;
        }
        int did = ASKED;
        for (int i = 0; i < most && did >= ASKED && did <= CORRECTED; i++) {
            did = world.learner.doStep(world.teacher, search);
        }
        return did;
    }

    public int ask() {
        long told = textWord();
        return told == NONE ? BAD : world.learner.askAbout(told, world.teacher);
    }

    public int word(boolean suffix, int k, int i) {
        Table table = world.learner.table;
        WordList list = suffix ? table.suffixes : table.prefixes;
        if (!list.hasNumber(k) || i < NONE) {
            return BAD;
        }
        return Words.letterOrLength(list.words[k], i);
    }

    public int cell(int prefix, int letter, int suffix) {
        Table table = world.learner.table;
        boolean named = letter == NONE || world.teacher.machine.hasLetter(letter);
        if (!named || !table.prefixes.hasNumber(prefix) || !table.suffixes.hasNumber(suffix)) {
            return BAD;
        }
        long start = table.prefixes.words[prefix];
        if (letter != NONE) {
            start = Words.append(start, letter);
        }
        return world.learner.asked.answerTo(Words.join(start, table.suffixes.words[suffix]));
    }

    public int hypothesis(int state, int what) {
        Learner learner = world.learner;
        if (!world.teacher.machine.hasProperty(what)) {
            return BAD;
        }
        if (!learner.hasHypothesis()) {
            return STATE;
        }
        if (!learner.hypothesis.hasState(state)) {
            return NONE;
        }
        return what == WHERE_FROM
                ? learner.representatives[state]
                : learner.hypothesis.property(state, what);
    }

    public int guess() {
        long told = textWord();
        if (told == NONE) {
            return BAD;
        }
        Learner learner = world.learner;
        return learner.hasHypothesis() ? learner.hypothesis.verdict(told) : STATE;
    }

    public int difference(int i) {
        if (i < NONE) {
            return BAD;
        }
        Learner learner = world.learner;
        if (!learner.hasHypothesis()) {
            return STATE;
        }
        search.findsDifference(learner.hypothesis, 0, world.teacher.machine, 0);
        return search.letterOrLength(i);
    }

    public int counterexample(int i) {
        if (i < NONE) {
            return BAD;
        }
        long used = world.learner.counterexample;
        return used == NONE ? STATE : Words.letterOrLength(used, i);
    }

    public int save(int slot) {
        if (slot < 0 || slot >= SLOTS) {
            return BAD;
        }
        if (slots[slot] == null) {
            slots[slot] = new World();
        }
        slots[slot].copyFrom(world);
        return world.learner.asked.size;
    }

    public int restore(int slot) {
        if (slot < 0 || slot >= SLOTS) {
            return BAD;
        }
        if (slots[slot] == null) {
            return STATE;
        }
        world.copyFrom(slots[slot]);
        return world.learner.asked.size;
    }

    public int count(int what) {
        Teacher teacher = world.teacher;
        Learner learner = world.learner;
        switch (what) {
            case 0: return teacher.machine.size;
            case 1: return teacher.machine.letters;
            case 2: return teacher.machine.countFinals();
            case 3: return teacher.lieCount;
            case 4: return learner.mode;
            case 5: return learner.budget;
            case 6: return learner.asked.size;
            case 7: return learner.table.prefixes.size;
            case 8: return learner.table.suffixes.size;
            case 9: return learner.hypothesis.size;
            case 10: return learner.corrections;
            case 11: return learner.deceived ? 1 : 0;
            case 12: return textLength;
            default: return BAD;
        }
    }

    public long digest() {
        Learner learner = world.learner;
        long h = 59;
        for (int what = 0; what <= 12; what++) {
            h = 31 * h + count(what);
        }
        h = mixAutomaton(h, world.teacher.machine);
        h = 31 * h + leastStates();
        h = mixTable(h, learner.table);
        h = mixAutomaton(h, learner.hypothesis);
        if (learner.counterexample != NONE) {
            h = mixLetters(h, learner.counterexample);
        }
        for (int i = 0; i < textLength; i++) {
            h = 31 * h + text[i];
        }
        return h;
    }

    private static long mixAutomaton(long start, Automaton automaton) {
        long h = start;
        for (int state = 0; state < automaton.size; state++) {
            for (int letter = 0; letter < automaton.letters; letter++) {
                h = 31 * h + automaton.next(state, letter);
            }
            h = 31 * h + automaton.finals[state];
        }
        return h;
    }

    private long mixTable(long start, Table table) {
        long h = start;
        for (int k = 0; k < table.prefixes.size; k++) {
            h = 31 * h + Words.lengthOf(table.prefixes.words[k]);
            h = mixLetters(h, table.prefixes.words[k]);
            h = mixRow(h, k, NONE);
        }
        for (int k = 0; k < table.prefixes.size; k++) {
            for (int letter = 0; letter < table.letters; letter++) {
                h = mixRow(h, k, letter);
            }
        }
        for (int k = 0; k < table.suffixes.size; k++) {
            h = 31 * h + Words.lengthOf(table.suffixes.words[k]);
            h = mixLetters(h, table.suffixes.words[k]);
        }
        return h;
    }

    private long mixRow(long start, int prefix, int letter) {
        long h = start;
        int columns = world.learner.table.suffixes.size;
        for (int suffix = 0; suffix < columns; suffix++) {
            h = 31 * h + cell(prefix, letter, suffix);
        }
        return h;
    }

    private static long mixLetters(long start, long mixed) {
        long h = start;
        int length = Words.lengthOf(mixed);
        for (int i = 0; i < length; i++) {
            h = 31 * h + Words.letterAt(mixed, i);
        }
        return h;
    }

    /** The word that the text is, or NONE if it is no word with the letters of the machine. */
    private long textWord() {
        long told = Words.EMPTY;
        for (int i = 0; i < textLength; i++) {
            int letter = text[i] - 'a';
            if (!world.teacher.machine.hasLetter(letter)) {
                return NONE;
            }
            told = Words.append(told, letter);
        }
        return told;
    }

    private boolean hasEarlierEqual(int state) {
        Automaton machine = world.teacher.machine;
        for (int earlier = 0; earlier < state; earlier++) {
            if (machine.distanceTo(earlier) != NONE
                    && !search.findsDifference(machine, earlier, machine, state)) {
                return true;
            }
        }
        return false;
    }

    /**
     * Words of at most 16 letters, each as one number: two bits a letter, the first letter
     * lowest, and a 1 above the last one, so that no two words have the same number.
     */
    private static final class Words {
        static final long EMPTY = 1;

        static int lengthOf(long word) {
            int length = 0;
            for (long rest = word >> 2; rest > 0 && length < LONGEST; rest >>= 2) {
                length++;
            }
            return length;
        }

        static int letterAt(long word, int i) {
            return (int) (word >> (2 * i) & 3);
        }

        static int letterOrLength(long word, int i) {
            int length = lengthOf(word);
            if (i == NONE) {
                return length;
            }
            return i < length ? letterAt(word, i) : NONE;
        }

        static long single(int letter) {
            return 4 | letter;
        }

        static long append(long word, int letter) {
            return join(word, single(letter));
        }

        static long join(long first, long second) {
            int bits = 2 * lengthOf(first);
            return (first ^ (1L << bits)) | (second << bits);
        }

        static long head(long word, int letters) {
            long end = 1L << (2 * letters);
            return (word & (end - 1)) | end;
        }

        static long tailFrom(long word, int i) {
            return word >> (2 * i);
        }
    }

    /** The prefixes, or the suffixes, of a table: different words, in order. */
    private static final class WordList {
        final long[] words;
        int size;
        int longest;

        WordList(int most) {
            words = new long[most];
            size = 0;
            longest = 0;
        }

        void startAnew() {
            size = 0;
            longest = 0;
            add(Words.EMPTY);
        }

        boolean hasNumber(int k) {
            return k >= 0 && k < size;
        }

        boolean contains(long word) {
            for (int k = 0; k < size; k++) {
                if (words[k] == word) {
                    return true;
                }
            }
            return false;
        }

        void add(long word) {
            if (size < words.length) {
                words[size] = word;
                size++;
                longest = Math.max(longest, Words.lengthOf(word));
            }
        }

        void copyFrom(WordList other) {
            size = other.size;
            longest = other.longest;
            System.arraycopy(other.words, 0, words, 0, size);
        }
    }

    /** A machine: the teacher's, or the hypothesis, which has no states before it is formed. */
    private static final class Automaton {
        final int[] moves;
        final int[] finals;
        int size;
        int letters;

        Automaton(int most) {
            moves = new int[most * MOST_LETTERS];
            finals = new int[most];
            size = 0;
            letters = 0;
        }

        void shape(int states, int letterCount) {
            size = states;
            letters = letterCount;
            Arrays.fill(moves, 0);
            Arrays.fill(finals, 0);
        }

        boolean hasState(int state) {
            return state >= 0 && state < size;
        }

        boolean hasLetter(int letter) {
            return letter >= 0 && letter < letters;
        }

        boolean hasProperty(int what) {
            return hasLetter(what) || what == WHETHER_FINAL || what == WHERE_FROM;
        }

        int property(int state, int what) {
            return what == WHETHER_FINAL ? finals[state] : next(state, what);
        }

        int next(int state, int letter) {
            return moves[state * MOST_LETTERS + letter];
        }

        void lead(int state, int letter, int to) {
            moves[state * MOST_LETTERS + letter] = to;
        }

        int countFinals() {
            int found = 0;
            for (int state = 0; state < size; state++) {
                found += finals[state];
            }
            return found;
        }

        /** Where the first letters of a word lead to from state 0. */
        int follow(long word, int steps) {
            int state = 0;
            long rest = word;
            for (int i = 0; i < steps; i++) {
                state = moves[state * MOST_LETTERS + (int) (rest & 3)];
                rest >>= 2;
            }
            return state;
        }

        /** 1 if the word is accepted, else 0. */
        int verdict(long word) {
            return finals[follow(word, Words.lengthOf(word))];
        }

        /** The length of the least word that leads to a state from state 0, or NONE. */
        int distanceTo(int target) {
            long reached = 1;
            for (int length = 0; length < size; length++) {
                if ((reached >> target & 1) == 1) {
                    return length;
                }
                reached |= successors(reached);
            }
            return NONE;
        }

        private long successors(long sources) {
            long found = 0;
            for (int state = 0; state < size; state++) {
                for (int letter = 0; letter < letters; letter++) {
                    found |= (sources >> state & 1) << next(state, letter);
                }
            }
            return found;
        }

        void copyFrom(Automaton other) {
            size = other.size;
            letters = other.letters;
            System.arraycopy(other.moves, 0, moves, 0, moves.length);
            System.arraycopy(other.finals, 0, finals, 0, finals.length);
        }
    }

    /**
     * Finds the least word on which two machines differ. It may have more than 16 letters, so
     * its letters are kept one by one.
     */
    private static final class Search {
        static final int MOST_PAIRS = MOST_PREFIXES * MOST_STATES;

        final int[] seen = new int[MOST_PAIRS];
        final int[] queue = new int[MOST_PAIRS];
        final int[] origin = new int[MOST_PAIRS];
        final int[] arrival = new int[MOST_PAIRS];
        final int[] letters = new int[MOST_PAIRS];
        int length = NONE;
        int queued = 0;

        /** Pairs are met in the order of their least words, so the first that differs is it. */
        boolean findsDifference(Automaton left, int p, Automaton right, int q) {
            Arrays.fill(seen, 0);
            queued = 0;
            length = NONE;
            meet(p, q, NONE, NONE);
            for (int at = 0; at < queued && at < MOST_PAIRS; at++) {
                int first = queue[at] / MOST_STATES;
                int second = queue[at] % MOST_STATES;
                if (left.finals[first] != right.finals[second]) {
                    traceBack(at);
                    return true;
                }
                for (int letter = 0; letter < right.letters; letter++) {
                    meet(left.next(first, letter), right.next(second, letter), at, letter);
                }
            }
            return false;
        }

        private void meet(int first, int second, int from, int letter) {
            int pair = first * MOST_STATES + second;
            if (seen[pair] == 0 && queued < MOST_PAIRS) {
                seen[pair] = 1;
                queue[queued] = pair;
                origin[queued] = from;
                arrival[queued] = letter;
                queued++;
            }
        }

        private void traceBack(int last) {
            length = 0;
            for (int at = last; at > 0 && length < MOST_PAIRS; at = origin[at]) {
                length++;
            }
            int at = last;
            for (int i = length - 1; i >= 0; i--) {
                letters[i] = arrival[at];
                at = origin[at];
            }
        }

        int letterOrLength(int i) {
            if (i == NONE) {
                return length;
            }
            return i < length ? letters[i] : NONE;
        }

        long foundWord() {
            long word = Words.EMPTY;
            for (int i = 0; i < length && i < LONGEST; i++) {
                word = Words.append(word, letters[i]);
            }
            return word;
        }
    }

    private static final class Teacher {
        final Automaton machine;
        final long[] lies;
        int lieCount;

        Teacher() {
            machine = new Automaton(MOST_STATES);
            machine.shape(1, 2);
            lies = new long[MOST_LIES];
            lieCount = 0;
        }

        int answerTo(long word) {
            int truth = machine.verdict(word);
            return placeOfLie(word) == NONE ? truth : 1 - truth;
        }

        /** Makes a word a lie, or no lie any more; false if there are too many. */
        boolean turnLie(long word) {
            int place = placeOfLie(word);
            if (place != NONE) {
                lieCount--;
                lies[place] = lies[lieCount];
                return true;
            }
            if (lieCount >= MOST_LIES) {
                return false;
            }
            lies[lieCount] = word;
            lieCount++;
            return true;
        }

        private int placeOfLie(long word) {
            for (int k = 0; k < lieCount; k++) {
                if (lies[k] == word) {
                    return k;
                }
            }
            return NONE;
        }

        void copyFrom(Teacher other) {
            machine.copyFrom(other.machine);
            lieCount = other.lieCount;
            System.arraycopy(other.lies, 0, lies, 0, lieCount);
        }
    }

    /** The words that were asked, sorted by their numbers; the lowest bit is the answer. */
    private static final class Questions {
        final long[] entries = new long[MOST_QUESTIONS];
        int size = 0;

        int answerTo(long word) {
            int place = placeOf(word);
            boolean known = place < size && entries[place] >> 1 == word;
            return known ? (int) (entries[place] & 1) : NONE;
        }

        void note(long word, int answer) {
            int place = placeOf(word);
            if (size < entries.length) {
                System.arraycopy(entries, place, entries, place + 1, size - place);
                entries[place] = word << 1 | answer;
                size++;
            }
        }

        /** How many of the words have smaller numbers. */
        private int placeOf(long word) {
            int low = 0;
            int high = size;
            for (int round = 0; round < 32 && low < high; round++) {
                int middle = (low + high) / 2;
                if (entries[middle] >> 1 < word) {
                    low = middle + 1;
                } else {
                    high = middle;
                }
            }
            return low;
        }

        void copyFrom(Questions other) {
            size = other.size;
            System.arraycopy(other.entries, 0, entries, 0, size);
        }
    }

    /**
     * The prefixes and suffixes, and the rows as far as they are known: for each row how many
     * answers from the first on, and these as bits. Answers never change and words are only
     * added at the end, so what is known of a row stays right.
     */
    private static final class Table {
        static final int ROWS_A_PREFIX = 1 + MOST_LETTERS;

        final WordList prefixes = new WordList(MOST_PREFIXES);
        final WordList suffixes = new WordList(MOST_SUFFIXES);
        final int[] known = new int[MOST_PREFIXES * ROWS_A_PREFIX];
        final int[] bits = new int[MOST_PREFIXES * ROWS_A_PREFIX];
        int letters = 0;

        void startAnew(int letterCount) {
            letters = letterCount;
            prefixes.startAnew();
            suffixes.startAnew();
            Arrays.fill(known, 0);
            Arrays.fill(bits, 0);
        }

        static int prefixRow(int prefix) {
            return prefix * ROWS_A_PREFIX;
        }

        static int extensionRow(int prefix, int letter) {
            return prefix * ROWS_A_PREFIX + 1 + letter;
        }

        /** The first word of the table that was not asked, or NONE if all rows are complete. */
        long firstGap(Questions asked) {
            long gap = NONE;
            for (int k = 0; k < prefixes.size && gap == NONE; k++) {
                gap = rowGap(prefixRow(k), prefixes.words[k], asked);
            }
            for (int k = 0; k < prefixes.size && gap == NONE; k++) {
                for (int letter = 0; letter < letters && gap == NONE; letter++) {
                    int row = extensionRow(k, letter);
                    if (known[row] < suffixes.size) {
                        gap = rowGap(row, Words.append(prefixes.words[k], letter), asked);
                    }
                }
            }
            return gap;
        }

        private long rowGap(int row, long start, Questions asked) {
            for (int column = known[row]; column < suffixes.size; column++) {
                long word = Words.join(start, suffixes.words[column]);
                int answer = asked.answerTo(word);
                if (answer == NONE) {
                    return word;
                }
                bits[row] |= answer << column;
                known[row] = column + 1;
            }
            return NONE;
        }

        /** The first extension whose row is not the row of any prefix, or NONE. */
        long firstOpen() {
            for (int k = 0; k < prefixes.size; k++) {
                for (int letter = 0; letter < letters; letter++) {
                    if (!isPrefixRow(bits[extensionRow(k, letter)])) {
                        return Words.append(prefixes.words[k], letter);
                    }
                }
            }
            return NONE;
        }

        private boolean isPrefixRow(int row) {
            for (int k = 0; k < prefixes.size; k++) {
                if (bits[prefixRow(k)] == row) {
                    return true;
                }
            }
            return false;
        }

        /** The suffix that tells two prefixes with equal rows apart, or NONE. */
        long firstSeparator() {
            for (int p = 0; p < prefixes.size; p++) {
                for (int q = p + 1; q < prefixes.size; q++) {
                    if (bits[prefixRow(p)] == bits[prefixRow(q)]) {
                        long separator = separatorOf(p, q);
                        if (separator != NONE) {
                            return separator;
                        }
                    }
                }
            }
            return NONE;
        }

        private long separatorOf(int p, int q) {
            for (int letter = 0; letter < letters; letter++) {
                int differing = bits[extensionRow(p, letter)] ^ bits[extensionRow(q, letter)];
                for (int column = 0; column < suffixes.size; column++) {
                    if ((differing >> column & 1) == 1) {
                        return Words.join(Words.single(letter), suffixes.words[column]);
                    }
                }
            }
            return NONE;
        }

        /** Whether a number of words, the longest of them so long, may be added to a list. */
        boolean hasRoom(boolean forSuffixes, int added, int longest) {
            WordList list = forSuffixes ? suffixes : prefixes;
            WordList other = forSuffixes ? prefixes : suffixes;
            return list.size + added <= list.words.length
                    && Math.max(list.longest, longest) + 1 + other.longest <= LONGEST;
        }

        void copyFrom(Table other) {
            letters = other.letters;
            prefixes.copyFrom(other.prefixes);
            suffixes.copyFrom(other.suffixes);
            System.arraycopy(other.known, 0, known, 0, known.length);
            System.arraycopy(other.bits, 0, bits, 0, bits.length);
        }
    }

    private static final class Learner {
        final Questions asked = new Questions();
        final Table table = new Table();
        final Automaton hypothesis = new Automaton(MOST_PREFIXES);
        final int[] representatives = new int[MOST_PREFIXES];
        int mode = 0;
        int budget = 200;
        boolean formed = false;
        long counterexample = NONE;
        int corrections = 0;
        boolean deceived = false;

        void startAnew(int letters) {
            asked.size = 0;
            table.startAnew(letters);
            hypothesis.shape(0, letters);
            formed = false;
            counterexample = NONE;
            corrections = 0;
            deceived = false;
        }

        boolean hasHypothesis() {
            return hypothesis.size > 0;
        }

        int askAbout(long word, Teacher teacher) {
            int known = asked.answerTo(word);
            if (known != NONE) {
                return known;
            }
            if (asked.size >= budget) {
                return OUT;
            }
            int answer = teacher.answerTo(word);
            asked.note(word, answer);
            return answer;
        }

        int doStep(Teacher teacher, Search search) {
            if (deceived) {
                return DECEIVED;
            }
            long gap = table.firstGap(asked);
            if (gap != NONE) {
                return askAbout(gap, teacher) == OUT ? OUT : ASKED;
            }
            long open = table.firstOpen();
            if (open != NONE) {
                return addWord(false, open) == FULL ? FULL : CLOSED;
            }
            long separator = table.firstSeparator();
            if (separator != NONE) {
                return addWord(true, separator) == FULL ? FULL : SEPARATED;
            }
            if (!formed) {
                formHypothesis();
                return FORMED;
            }
            if (!search.findsDifference(hypothesis, 0, teacher.machine, 0)) {
                return LEARNED;
            }
            if (search.length > LONGEST) {
                return FULL;
            }
            long example = search.foundWord();
            int added = mode == 1 ? addSplit(example, teacher) : addParts(mode == 2, example);
            return added < 0 ? added : finishCorrection(example, added);
        }

        private void formHypothesis() {
            hypothesis.shape(0, table.letters);
            for (int k = 0; k < table.prefixes.size; k++) {
                int row = table.bits[Table.prefixRow(k)];
                if (stateWithRow(row) == NONE) {
                    representatives[hypothesis.size] = k;
                    hypothesis.finals[hypothesis.size] = row & 1;
                    hypothesis.size++;
                }
            }
            for (int state = 0; state < hypothesis.size; state++) {
                for (int letter = 0; letter < table.letters; letter++) {
                    int row = table.bits[Table.extensionRow(representatives[state], letter)];
                    // The table is closed, so there is a state; 0 stands in for none.
                    hypothesis.lead(state, letter, Math.max(0, stateWithRow(row)));
                }
            }
            formed = true;
        }

        private int stateWithRow(int row) {
            for (int state = 0; state < hypothesis.size; state++) {
                if (table.bits[Table.prefixRow(representatives[state])] == row) {
                    return state;
                }
            }
            return NONE;
        }

        private int finishCorrection(long example, int added) {
            counterexample = example;
            corrections++;
            deceived = added == 0;
            return deceived ? DECEIVED : CORRECTED;
        }

        /** Adds all beginnings or all ends of a word; returns how many, or FULL. */
        private int addParts(boolean ends, long word) {
            WordList list = ends ? table.suffixes : table.prefixes;
            int length = Words.lengthOf(word);
            int added = 0;
            int longest = 0;
            for (int i = 0; i <= length; i++) {
                if (!list.contains(part(ends, word, i))) {
                    added++;
                    longest = i;
                }
            }
            if (added == 0) {
                return 0;
            }
            if (!table.hasRoom(ends, added, longest)) {
                return FULL;
            }
            for (int i = 0; i <= length; i++) {
                addWord(ends, part(ends, word, i));
            }
            return added;
        }

        private static long part(boolean end, long word, int letters) {
            return end
                    ? Words.tailFrom(word, Words.lengthOf(word) - letters)
                    : Words.head(word, letters);
        }

        /** Asks where the example parts from the hypothesis; returns how many were added. */
        private int addSplit(long example, Teacher teacher) {
            int low = 0;
            int high = Words.lengthOf(example);
            // The first prefix is the empty word, so question(0) is the example itself.
            int first = askAbout(example, teacher);
            if (first == OUT) {
                return OUT;
            }
            for (int round = 0; round < LONGEST && high - low > 1; round++) {
                int middle = (low + high) / 2;
                long question = question(example, middle);
                int answer = question == NONE ? FULL : askAbout(question, teacher);
                if (answer < 0) {
                    return answer;
                }
                if (answer == first) {
                    low = middle;
                } else {
                    high = middle;
                }
            }
            return addWord(true, Words.tailFrom(example, high));
        }

        /** NONE if it has too many letters. */
        private long question(long example, int i) {
            int representative = representatives[hypothesis.follow(example, i)];
            long start = table.prefixes.words[representative];
            long rest = Words.tailFrom(example, i);
            boolean fits = Words.lengthOf(start) + Words.lengthOf(rest) <= LONGEST;
            return fits ? Words.join(start, rest) : NONE;
        }

        /** Returns 1, or 0 if the list has the word already, or FULL. */
        private int addWord(boolean asSuffix, long word) {
            WordList list = asSuffix ? table.suffixes : table.prefixes;
            if (list.contains(word)) {
                return 0;
            }
            if (!table.hasRoom(asSuffix, 1, Words.lengthOf(word))) {
                return FULL;
            }
            list.add(word);
            formed = false;
            return 1;
        }

        void copyFrom(Learner other) {
            asked.copyFrom(other.asked);
            table.copyFrom(other.table);
            hypothesis.copyFrom(other.hypothesis);
            System.arraycopy(other.representatives, 0, representatives, 0, MOST_PREFIXES);
            mode = other.mode;
            budget = other.budget;
            formed = other.formed;
            counterexample = other.counterexample;
            corrections = other.corrections;
            deceived = other.deceived;
        }
    }

    /** What a slot saves: the machine, the lies and the learner. */
    private static final class World {
        final Teacher teacher;
        final Learner learner;

        World() {
            teacher = new Teacher();
            learner = new Learner();
            learner.startAnew(teacher.machine.letters);
        }

        void startLearner() {
            learner.startAnew(teacher.machine.letters);
        }

        void copyFrom(World other) {
            teacher.copyFrom(other.teacher);
            learner.copyFrom(other.learner);
        }
    }
}
