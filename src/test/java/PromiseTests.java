/** For each promise of the document its ordinary inputs, its edges and wrong inputs. */
public final class PromiseTests {
    private static final int BAD = -2, STATE = -3, OUT = -4, FULL = -5, NONE = -1;
    private static final int MIN = Integer.MIN_VALUE, MAX = Integer.MAX_VALUE;

    public static void main(String[] args) {
        Tested.sentence("promise 1"); newObject();
        Tested.sentence("promise 2"); reset();
        Tested.sentence("promise 3"); setMove();
        Tested.sentence("promise 4"); setFinal();
        Tested.sentence("promise 5"); lie();
        Tested.sentence("promise 6"); state();
        Tested.sentence("promise 7"); distinguish();
        Tested.sentence("promise 8"); leastStates();
        Tested.sentence("promise 9"); accepts();
        Tested.sentence("promise 10"); type();
        Tested.sentence("promise 11"); clearText();
        Tested.sentence("promise 12"); begin();
        Tested.sentence("promise 13"); step();
        Tested.sentence("promise 14"); learn();
        Tested.sentence("promise 15"); ask();
        Tested.sentence("promise 16"); word();
        Tested.sentence("promise 17"); cell();
        Tested.sentence("promise 18"); hypothesis();
        Tested.sentence("promise 19"); guess();
        Tested.sentence("promise 20"); difference();
        Tested.sentence("promise 21"); counterexample();
        Tested.sentence("promise 22"); save();
        Tested.sentence("promise 23"); restore();
        Tested.sentence("promise 24"); count();
        Tested.sentence("promise 25"); digest();
        Tested.end();
    }

    private static void due(String call, long got, long want) {
        Tested.due(call, got, want);
    }

    /** The last call of x answered this, and has changed nothing. */
    private static void still(Tested x, long got, long want) {
        Tested.still(x, got, want);
    }

    private static void text(Tested x, String word) {
        x.text(word);
    }

    private static void steps(Tested x, int... due) {
        x.steps(due);
    }

    private static void isWord(Tested x, boolean suffix, int k, String word) {
        x.isWord(suffix, k, word);
    }

    /** The lines give each state's next states; the marks which states are final. */
    private static Tested machine(int letters, String finals, int... moves) {
        Tested x = new Tested();
        x.reset(finals.length(), letters);
        for (int s = 0; s < finals.length(); s++) {
            for (int a = 0; a < letters; a++) {
                x.setMove(s, a, moves[s * letters + a]);
            }
            if (finals.charAt(s) == '1') {
                x.setFinal(s, true);
            }
        }
        return x;
    }

    /** Accepts the words in which aaa occurs. */
    private static Tested threeAs() {
        return machine(2, "0001", 1, 0, 2, 0, 3, 0, 3, 3);
    }

    /** Accepts the words of one letter whose length is last modulo n. */
    private static Tested cycle(int n, int last) {
        int[] moves = new int[n];
        StringBuilder finals = new StringBuilder();
        for (int s = 0; s < n; s++) {
            moves[s] = (s + 1) % n;
            finals.append(s == last ? '1' : '0');
        }
        return machine(1, finals.toString(), moves);
    }

    private static void lies(Tested x, String... words) {
        for (String w : words) {
            text(x, w);
            due("lie() " + w, x.lie() > 0 ? 1 : 0, 1);
        }
        x.clearText();
    }

    private static String as(int n) {
        return "a".repeat(n);
    }

    private static void newObject() {
        Tested x = new Tested();
        int[] counts = {1, 2, 0, 0, 0, 200, 0, 1, 1, 0, 0, 0, 0};
        for (int what = 0; what < counts.length; what++) {
            due("count(" + what + ")", x.count(what), counts[what]);
        }
        due("state(0, 0)", x.state(0, 0), 0);
        due("state(0, 1)", x.state(0, 1), 0);
        due("state(0, 2)", x.state(0, 2), BAD);
        isWord(x, false, 0, "");
        isWord(x, true, 0, "");
        due("restore(0)", x.restore(0), STATE);
        due("restore(1)", x.restore(1), STATE);
        steps(x, 1, 1, 1, 4, 6, 6);
    }

    private static void reset() {
        Tested x = threeAs();
        lies(x, "a", "b");
        x.begin(1, 77);
        x.learn(5);
        x.save(0);
        int asked = x.count(6);
        text(x, "abc");
        still(x, x.reset(0, 2), BAD);
        still(x, x.reset(9, 2), BAD);
        still(x, x.reset(2, 0), BAD);
        still(x, x.reset(2, 4), BAD);
        still(x, x.reset(MIN, MAX), BAD);
        due("reset(8, 3)", x.reset(8, 3), 8);
        int[] counts = {8, 3, 0, 0, 1, 77, 0, 1, 1, 0, 0, 0, 3};
        for (int what = 0; what < counts.length; what++) {
            due("count(" + what + ") after reset", x.count(what), counts[what]);
        }
        for (int s = 0; s < 8; s++) {
            for (int what = 0; what < 4; what++) {
                due("state(" + s + ", " + what + ") after reset", x.state(s, what), 0);
            }
        }
        due("reset(1, 1)", x.reset(1, 1), 1);
        due("restore(0) after reset", x.restore(0), asked);
        due("lies restored", x.count(3), 2);
    }

    private static void setMove() {
        Tested x = new Tested();
        x.reset(8, 3);
        due("setMove(7, 2, 7)", x.setMove(7, 2, 7), 0);
        due("setMove(7, 2, 3)", x.setMove(7, 2, 3), 7);
        due("state(7, 2)", x.state(7, 2), 3);
        due("state(7, 1)", x.state(7, 1), 0);
        x.learn(3);
        still(x, x.setMove(8, 0, 0), BAD);
        still(x, x.setMove(-1, 0, 0), BAD);
        still(x, x.setMove(0, 3, 0), BAD);
        still(x, x.setMove(0, -1, 0), BAD);
        still(x, x.setMove(0, 0, 8), BAD);
        still(x, x.setMove(0, 0, -1), BAD);
        still(x, x.setMove(MIN, MAX, MIN), BAD);
        due("questions", x.count(6), 3);
        due("setMove to the same", x.setMove(7, 2, 3), 3);
        due("questions after setMove", x.count(6), 0);
    }

    private static void setFinal() {
        Tested x = new Tested();
        x.reset(3, 1);
        due("setFinal(2, true)", x.setFinal(2, true), 1);
        due("setFinal(0, true)", x.setFinal(0, true), 2);
        due("state(2, 3)", x.state(2, 3), 1);
        due("state(1, 3)", x.state(1, 3), 0);
        x.step();
        still(x, x.setFinal(2, true), STATE);
        still(x, x.setFinal(1, false), STATE);
        still(x, x.setFinal(3, true), BAD);
        still(x, x.setFinal(-1, false), BAD);
        due("questions", x.count(6), 1);
        due("setFinal(2, false)", x.setFinal(2, false), 1);
        due("questions after setFinal", x.count(6), 0);
        due("state(2, 3)", x.state(2, 3), 0);
    }

    private static void lie() {
        Tested x = new Tested();
        due("lie() empty", x.lie(), 1);
        due("ask() empty", x.ask(), 1);
        due("accepts() empty", x.accepts(), 0);
        text(x, "ab");
        due("ask() ab", x.ask(), 0);
        due("lie() ab", x.lie(), 2);
        due("questions after lie()", x.count(6), 0);
        due("the text stays", x.count(12), 2);
        due("ask() ab", x.ask(), 1);
        text(x, "abbbbbbbbbbbbbba");
        due("lie() of 16 letters", x.lie(), 3);
        text(x, "abbbbbbbbbbbbbbb");
        due("lie() of 16 letters", x.lie(), 4);
        text(x, "b");
        still(x, x.lie(), FULL);
        text(x, "c");
        still(x, x.lie(), BAD);
        text(x, "A");
        still(x, x.lie(), BAD);
        text(x, "ab");
        due("lie() out again", x.lie(), 3);
        due("ask() ab", x.ask(), 0);
        text(x, "abbbbbbbbbbbbbba");
        due("ask() of 16 letters", x.ask(), 1);
        text(x, "");
        due("ask() empty", x.ask(), 1);
        due("lie() out", x.lie(), 2);
        due("ask() empty", x.ask(), 0);
        Tested y = new Tested();
        y.setFinal(0, true);
        lies(y, "b");
        text(y, "b");
        due("ask() b where all are accepted", y.ask(), 0);
    }

    private static void state() {
        Tested x = machine(2, "0101", 1, 3, 1, 0, 0, 0, 3, 3);
        int[][] due = {{1, 3, 0, 0}, {1, 0, 1, 1}, {0, 0, 0, NONE}, {3, 3, 1, 1}};
        int[] what = {0, 1, 3, 4};
        for (int s = 0; s < 4; s++) {
            for (int k = 0; k < 4; k++) {
                due("state(" + s + ", " + what[k] + ")", x.state(s, what[k]), due[s][k]);
            }
            due("state(" + s + ", 2)", x.state(s, 2), BAD);
        }
        due("state(4, 0)", x.state(4, 0), BAD);
        due("state(-1, 0)", x.state(-1, 0), BAD);
        due("state(0, 5)", x.state(0, 5), BAD);
        due("state(0, -1)", x.state(0, -1), BAD);
        due("state(MAX, MAX)", x.state(MAX, MAX), BAD);
        Tested far = cycle(8, 7);
        due("state(7, 4)", far.state(7, 4), 7);
        due("state(7, 1) with one letter", far.state(7, 1), BAD);
    }

    private static void distinguish() {
        Tested x = threeAs();
        due("distinguish(0, 1, -1)", x.distinguish(0, 1, NONE), 2);
        due("distinguish(0, 1, 0)", x.distinguish(0, 1, 0), 0);
        due("distinguish(0, 1, 1)", x.distinguish(0, 1, 1), 0);
        due("distinguish(0, 1, 2)", x.distinguish(0, 1, 2), NONE);
        due("distinguish(0, 1, MAX)", x.distinguish(0, 1, MAX), NONE);
        due("distinguish(2, 3, -1)", x.distinguish(2, 3, NONE), 0);
        due("distinguish(2, 3, 0)", x.distinguish(2, 3, 0), NONE);
        due("distinguish(1, 1, -1)", x.distinguish(1, 1, NONE), NONE);
        due("distinguish(0, 4, -1)", x.distinguish(0, 4, NONE), BAD);
        due("distinguish(-1, 0, -1)", x.distinguish(-1, 0, NONE), BAD);
        due("distinguish(0, 1, -2)", x.distinguish(0, 1, -2), BAD);
        due("distinguish(1, 1, -2)", x.distinguish(1, 1, -2), BAD);
        // ab and ba both tell 0 from 1; ab is the lesser one.
        Tested y = machine(2, "000001", 2, 3, 4, 4, 4, 5, 5, 4, 4, 4, 4, 4);
        due("distinguish(0, 1, -1)", y.distinguish(0, 1, NONE), 2);
        due("distinguish(0, 1, 0)", y.distinguish(0, 1, 0), 0);
        due("distinguish(0, 1, 1)", y.distinguish(0, 1, 1), 1);
        due("distinguish(1, 4, 0)", y.distinguish(1, 4, 0), NONE);
        // b is shorter than aa.
        Tested z = machine(2, "0001", 1, 3, 3, 2, 2, 2, 2, 2);
        due("distinguish(0, 2, -1)", z.distinguish(0, 2, NONE), 1);
        due("distinguish(0, 2, 0)", z.distinguish(0, 2, 0), 1);
    }

    private static void leastStates() {
        due("a new machine", new Tested().leastStates(), 1);
        due("aaa", threeAs().leastStates(), 4);
        due("a cycle of 8", cycle(8, 7).leastStates(), 8);
        due("state 2 is not reached", machine(1, "001", 1, 0, 2).leastStates(), 1);
        due("states 1 and 2 are equal", machine(2, "011", 1, 2, 0, 0, 0, 0).leastStates(), 2);
        due("all are final", machine(1, "111", 1, 2, 0).leastStates(), 1);
        Tested x = cycle(4, 3);
        x.setFinal(1, true);
        due("a cycle that is its double", x.leastStates(), 2);
    }

    private static void accepts() {
        Tested x = threeAs();
        lies(x, "aaa");
        long before = x.digest();
        due("accepts() empty", x.accepts(), 0);
        due("digest()", x.digest(), before);
        text(x, "baaab");
        due("accepts() baaab", x.accepts(), 1);
        text(x, "aabaabaabaabaaba");
        due("accepts() of 16 letters", x.accepts(), 0);
        text(x, "aabaabaabaabaaaa");
        due("accepts() of 16 letters", x.accepts(), 1);
        text(x, "aaa");
        due("accepts() a lie", x.accepts(), 1);
        due("nothing was asked", x.count(6), 0);
        text(x, "aaac");
        still(x, x.accepts(), BAD);
        text(x, "`");
        still(x, x.accepts(), BAD);
        x.reset(1, 3);
        text(x, "cab");
        due("accepts() cab with three letters", x.accepts(), 0);
        text(x, "d");
        still(x, x.accepts(), BAD);
    }

    private static void type() {
        Tested x = new Tested();
        due("type(0)", x.type(0), 1);
        due("type(127)", x.type(127), 2);
        still(x, x.type(-1), BAD);
        still(x, x.type(128), BAD);
        still(x, x.type(MIN), BAD);
        for (int n = 3; n <= 16; n++) {
            due("type(99)", x.type(99), n);
        }
        still(x, x.type(97), FULL);
        still(x, x.type(128), BAD);
    }

    private static void clearText() {
        Tested x = new Tested();
        due("clearText() at first", x.clearText(), 0);
        text(x, "aaaabbbbaaaabbbb");
        due("clearText()", x.clearText(), 16);
        due("count(12)", x.count(12), 0);
        due("clearText() again", x.clearText(), 0);
        due("type(98)", x.type(98), 1);
        due("ask()", x.ask(), 0);
        due("cell of b", x.cell(0, 1, 0), 0);
    }

    private static void begin() {
        Tested x = threeAs();
        due("begin(1, 300)", x.begin(1, 300), 0);
        due("begin(2, 200)", x.begin(2, 200), 1);
        lies(x, "ab");
        due("mode after lie()", x.count(4), 2);
        due("learn", x.learn(1000), 7);
        still(x, x.begin(3, 0), BAD);
        still(x, x.begin(-1, 0), BAD);
        still(x, x.begin(0, -1), BAD);
        still(x, x.begin(0, 301), BAD);
        due("begin(0, 0)", x.begin(0, 0), 2);
        int[] counts = {4, 2, 1, 1, 0, 0, 0, 1, 1, 0, 0, 0, 0};
        for (int what = 0; what < counts.length; what++) {
            due("count(" + what + ") after begin", x.count(what), counts[what]);
        }
        due("counterexample(-1)", x.counterexample(NONE), STATE);
        due("hypothesis(0, 0)", x.hypothesis(0, 0), STATE);
        due("cell(0, -1, 0)", x.cell(0, NONE, 0), NONE);
        due("step() with budget 0", x.step(), OUT);
    }

    private static void step() {
        stepOrder();
        stepModes();
        stepOut();
        stepLies();
        stepFull();
    }

    private static void stepOrder() {
        Tested x = threeAs();
        steps(x, 1, 1, 1, 4, 5);
        due("prefixes", x.count(7), 4);
        isWord(x, false, 1, "a");
        isWord(x, false, 2, "aa");
        isWord(x, false, 3, "aaa");
        // Now aa, aaa, then ab, aab, aaaa, aaab are open, in this order.
        String[] order = {"aa", "aaa", "ab", "aab", "aaaa", "aaab"};
        int[][] cells = {{2, NONE}, {3, NONE}, {1, 1}, {2, 1}, {3, 0}, {3, 1}};
        for (int i = 0; i < order.length; i++) {
            due("cell " + order[i] + " before", x.cell(cells[i][0], cells[i][1], 0), NONE);
            steps(x, 1);
            int answer = order[i].contains("aaa") ? 1 : 0;
            due("cell " + order[i] + " after", x.cell(cells[i][0], cells[i][1], 0), answer);
        }
        steps(x, 3);
        isWord(x, true, 1, "a");
        due("the old hypothesis is kept", x.count(9), 1);
        Tested y = new Tested();
        y.reset(1, 2);
        lies(y, "b");
        steps(y, 1, 1, 1, 2);
        isWord(y, false, 1, "b");
    }

    private static void stepModes() {
        Tested x = threeAs();
        x.begin(1, 200);
        steps(x, 1, 1, 1, 4, 5);
        due("questions in mode 1", x.count(6), 5);
        due("prefixes in mode 1", x.count(7), 1);
        due("suffixes in mode 1", x.count(8), 2);
        isWord(x, true, 1, "aa");
        Tested y = threeAs();
        y.begin(2, 200);
        steps(y, 1, 1, 1, 4, 5);
        due("questions in mode 2", y.count(6), 3);
        due("prefixes in mode 2", y.count(7), 1);
        due("suffixes in mode 2", y.count(8), 4);
        isWord(y, true, 1, "a");
        isWord(y, true, 2, "aa");
        isWord(y, true, 3, "aaa");
    }

    private static void stepOut() {
        Tested x = threeAs();
        x.begin(1, 3);
        steps(x, 1, 1, 1, 4);
        still(x, x.step(), OUT);
        x.begin(1, 4);
        steps(x, 1, 1, 1, 4, OUT);
        due("question(0) remains asked", x.count(6), 4);
        due("nothing else", x.count(8), 1);
        due("no correction", x.count(10), 0);
        due("no counterexample", x.counterexample(NONE), STATE);
        still(x, x.step(), OUT);
        text(x, "aaa");
        due("ask() what was question(0)", x.ask(), 1);
        text(x, "aa");
        due("ask() what was question(1)", x.ask(), OUT);
        x.begin(1, 5);
        steps(x, 1, 1, 1, 4, 5, OUT);
        // The step needs no new question if all was asked before.
        x.begin(0, 3);
        for (String w : new String[] {"", "a", "b"}) {
            text(x, w);
            x.ask();
        }
        steps(x, 4, 5, OUT);
    }

    private static void stepLies() {
        for (int mode = 0; mode <= 2; mode++) {
            Tested x = new Tested();
            x.begin(mode, 200);
            lies(x, "");
            steps(x, 1, 1, 1, 2, 1, 1, 4, 7);
            due("noticed in mode " + mode, x.count(11), 1);
            due("corrections in mode " + mode, x.count(10), 1);
            due("counterexample in mode " + mode, x.counterexample(NONE), 0);
            still(x, x.step(), 7);
            text(x, "bbb");
            due("ask() after 7", x.ask(), 0);
            due("questions", x.count(6), 6);
            steps(x, 7, 7);
        }
        Tested y = new Tested();
        lies(y, "a");
        steps(y, 1, 1, 1, 2, 1, 1, 4, 7, 7);
        y.begin(1, 200);
        steps(y, 1, 1, 1, 2, 1, 1, 4, 7, 7);
        y.begin(2, 200);
        steps(y, 1, 1, 1, 2, 1, 1, 4, 5);
        isWord(y, true, 1, "a");
        due("not yet noticed", y.count(11), 0);
        due("learn", y.learn(1000), 7);
        due("corrections", y.count(10), 2);
    }

    private static void stepFull() {
        Tested closing = cycle(6, 5);
        lies(closing, as(10), as(7), as(2));
        fullAt(closing, 2);
        Tested separating = cycle(6, 5);
        lies(separating, as(11), as(9));
        fullAt(separating, 0);
        Tested beginnings = cycle(8, 7);
        lies(beginnings, as(14));
        fullAt(beginnings, 0);
        Tested ends = machine(1, "000001", 1, 2, 3, 4, 5, 5);
        lies(ends, as(8), as(9));
        fullAt(ends, 2);
        Tested suffixes = machine(2, "00000001", 1, 2, 2, 3, 3, 4, 4, 5, 5, 6, 6, 7, 7, 0, 0, 1);
        lies(suffixes, "abbbbbbab");
        fullAt(suffixes, 2);
    }

    private static void fullAt(Tested x, int mode) {
        x.begin(mode, 300);
        due("learn(1000) in mode " + mode, x.learn(1000), FULL);
        still(x, x.step(), FULL);
        still(x, x.learn(3), FULL);
    }

    private static void learn() {
        Tested x = threeAs();
        still(x, x.learn(0), BAD);
        still(x, x.learn(1001), BAD);
        still(x, x.learn(-1), BAD);
        due("learn(1)", x.learn(1), 1);
        due("count(6)", x.count(6), 1);
        due("learn(3)", x.learn(3), 4);
        due("learn(1)", x.learn(1), 5);
        due("learn(1000)", x.learn(1000), 6);
        due("learn(1)", x.learn(1), 6);
        x.begin(0, 4);
        due("learn(1000) with budget 4", x.learn(1000), OUT);
        due("count(6)", x.count(6), 4);
        lies(x, "");
        x.begin(0, 300);
        due("learn(1000) with a lie", x.learn(1000), 7);
        due("learn(2) with a lie", x.learn(2), 7);
    }

    private static void ask() {
        Tested x = threeAs();
        lies(x, "ab");
        x.begin(0, 2);
        text(x, "ab");
        due("ask() a lie", x.ask(), 1);
        due("questions", x.count(6), 1);
        due("ask() again", x.ask(), 1);
        due("questions", x.count(6), 1);
        text(x, "baaabbbbbbbbbbbb");
        due("ask() of 16 letters", x.ask(), 1);
        text(x, "a");
        still(x, x.ask(), OUT);
        text(x, "ac");
        still(x, x.ask(), BAD);
        text(x, "ab");
        still(x, x.ask(), 1);
    }

    private static void word() {
        Tested x = threeAs();
        x.begin(2, 200);
        x.learn(1000);
        isWord(x, false, 0, "");
        isWord(x, false, 1, "a");
        isWord(x, false, 2, "aa");
        isWord(x, false, 3, "aaa");
        isWord(x, true, 3, "aaa");
        due("word(false, 4, -1)", x.word(false, 4, NONE), BAD);
        due("word(true, 4, -1)", x.word(true, 4, NONE), BAD);
        due("word(true, -1, -1)", x.word(true, -1, NONE), BAD);
        due("word(true, 1, -2)", x.word(true, 1, -2), BAD);
        due("word(false, 1, MIN)", x.word(false, 1, MIN), BAD);
        due("word(false, 1, MAX)", x.word(false, 1, MAX), NONE);
        due("word(false, MAX, 0)", x.word(false, MAX, 0), BAD);
        Tested y = machine(3, "0001", 1, 0, 0, 0, 2, 0, 0, 0, 3, 3, 3, 3);
        steps(y, 1, 1, 1, 1, 4, 5);
        isWord(y, false, 3, "abc");
    }

    private static void cell() {
        Tested x = threeAs();
        due("cell(0, -1, 0)", x.cell(0, NONE, 0), NONE);
        text(x, "b");
        x.ask();
        due("cell(0, 1, 0) after ask()", x.cell(0, 1, 0), 0);
        due("cell(0, 0, 0) after ask()", x.cell(0, 0, 0), NONE);
        x.begin(2, 200);
        x.learn(1000);
        String[] words = {"", "a", "aa", "aaa"};
        for (int p = 0; p < 4; p++) {
            for (int s = 0; s < 4; s++) {
                due("cell(p, -1, s)", x.cell(p, NONE, s), p + s >= 3 ? 1 : 0);
                due("cell(p, 0, s)", x.cell(p, 0, s), p + 1 + s >= 3 ? 1 : 0);
                due("cell(p, 1, s)", x.cell(p, 1, s), (words[p] + "b" + words[s]).contains("aaa") ? 1 : 0);
            }
        }
        due("cell(4, -1, 0)", x.cell(4, NONE, 0), BAD);
        due("cell(-1, -1, 0)", x.cell(-1, NONE, 0), BAD);
        due("cell(0, -2, 0)", x.cell(0, -2, 0), BAD);
        due("cell(0, 2, 0)", x.cell(0, 2, 0), BAD);
        due("cell(0, 0, 4)", x.cell(0, 0, 4), BAD);
        due("cell(0, 0, -1)", x.cell(0, 0, -1), BAD);
        due("cell(MAX, MAX, MAX)", x.cell(MAX, MAX, MAX), BAD);
    }

    private static void hypothesis() {
        Tested x = threeAs();
        due("hypothesis(0, 0) without one", x.hypothesis(0, 0), STATE);
        due("hypothesis(9, 4) without one", x.hypothesis(9, 4), STATE);
        due("hypothesis(0, 2) without one", x.hypothesis(0, 2), BAD);
        due("hypothesis(0, -1) without one", x.hypothesis(0, -1), BAD);
        x.learn(4);
        due("hypothesis(0, 0)", x.hypothesis(0, 0), 0);
        due("hypothesis(0, 1)", x.hypothesis(0, 1), 0);
        due("hypothesis(0, 3)", x.hypothesis(0, 3), 0);
        due("hypothesis(0, 4)", x.hypothesis(0, 4), 0);
        due("hypothesis(1, 4)", x.hypothesis(1, 4), NONE);
        due("hypothesis(1, 5)", x.hypothesis(1, 5), BAD);
        due("hypothesis(-1, 0)", x.hypothesis(-1, 0), NONE);
        due("hypothesis(MAX, 0)", x.hypothesis(MAX, 0), NONE);
        due("hypothesis(0, MAX)", x.hypothesis(0, MAX), BAD);
        x.learn(1000);
        int[][] due = {{1, 0, 0, 0}, {2, 0, 0, 1}, {3, 0, 0, 2}, {3, 3, 1, 3}};
        int[] what = {0, 1, 3, 4};
        for (int s = 0; s < 4; s++) {
            for (int k = 0; k < 4; k++) {
                due("hypothesis(" + s + ", " + what[k] + ")", x.hypothesis(s, what[k]), due[s][k]);
            }
        }
        due("hypothesis(0, 1) with one letter", cycle(4, 3).hypothesis(0, 1), BAD);
        representatives();
    }

    /** Here are more prefixes than states, so that a state's number is not its prefix's. */
    private static void representatives() {
        Tested x = machine(2, "10000001", 1, 4, 2, 5, 3, 6, 0, 7, 5, 0, 6, 1, 7, 2, 4, 3);
        x.begin(0, 300);
        due("learn", x.learn(1000), 6);
        int states = 0;
        int moved = 0;
        for (int k = 0; k < x.count(7); k++) {
            boolean first = true;
            for (int earlier = 0; earlier < k; earlier++) {
                first &= !sameRow(x, earlier, k);
            }
            if (first) {
                due("representative of state " + states, x.hypothesis(states, 4), k);
                due("whether it is final", x.hypothesis(states, 3), x.cell(k, NONE, 0));
                moved += states == k ? 0 : 1;
                states++;
            }
        }
        due("states", x.count(9), states);
        due("a representative has another number", moved > 0 ? 1 : 0, 1);
    }

    /** What the digest does not tell of a slot: the representatives and the room that is left. */
    private static void restoreUnseen() {
        Tested x = machine(2, "10000001", 1, 4, 2, 5, 3, 6, 0, 7, 5, 0, 6, 1, 7, 2, 4, 3);
        x.begin(0, 300);
        x.learn(1000);
        int[] kept = new int[x.count(9)];
        for (int s = 0; s < kept.length; s++) {
            kept[s] = x.hypothesis(s, 4);
        }
        x.save(0);
        x.begin(1, 300);
        x.learn(1000);
        x.restore(0);
        for (int s = 0; s < kept.length; s++) {
            due("restored representative of state " + s, x.hypothesis(s, 4), kept[s]);
        }
        Tested y = cycle(8, 7);
        lies(y, as(14));
        y.begin(0, 300);
        due("learn", y.learn(1000), FULL);
        y.save(1);
        y.begin(0, 300);
        due("the room is there again", y.step(), 1);
        y.restore(1);
        due("no room is there again", y.step(), FULL);
    }

    private static boolean sameRow(Tested x, int p, int q) {
        for (int s = 0; s < x.count(8); s++) {
            if (x.cell(p, NONE, s) != x.cell(q, NONE, s)) {
                return false;
            }
        }
        return true;
    }

    private static void guess() {
        Tested x = threeAs();
        due("guess() without one", x.guess(), STATE);
        text(x, "c");
        due("guess() with c, without one", x.guess(), BAD);
        x.learn(4);
        due("guess() with c", x.guess(), BAD);
        text(x, "aaa");
        still(x, x.guess(), 0);
        due("guess() is no step", x.learn(1000), 6);
        still(x, x.guess(), 1);
        text(x, "aabaabaabaabaaba");
        due("guess() of 16 letters", x.guess(), 0);
        text(x, "baaabbbbbbbbbbbb");
        due("guess() of 16 letters", x.guess(), 1);
        text(x, "");
        due("guess() empty", x.guess(), 0);
    }

    private static void difference() {
        Tested x = threeAs();
        due("difference(-1) without one", x.difference(NONE), STATE);
        due("difference(-2) without one", x.difference(-2), BAD);
        x.learn(4);
        still(x, x.difference(NONE), 3);
        due("difference(0)", x.difference(0), 0);
        due("difference(2)", x.difference(2), 0);
        due("difference(3)", x.difference(3), NONE);
        due("difference(MAX)", x.difference(MAX), NONE);
        due("difference(MIN)", x.difference(MIN), BAD);
        x.step();
        due("difference(-1) with the old one", x.difference(NONE), 3);
        x.learn(1000);
        due("difference(-1) at the end", x.difference(NONE), NONE);
        due("difference(0) at the end", x.difference(0), NONE);
        Tested y = machine(3, "0001", 1, 0, 0, 0, 2, 0, 0, 0, 3, 3, 3, 3);
        y.learn(5);
        for (int i = 0; i < 3; i++) {
            due("letter of abc", y.difference(i), i);
        }
        Tested z = new Tested();
        lies(z, "");
        z.learn(7);
        due("difference(-1), the empty word", z.difference(NONE), 0);
        due("difference(0), the empty word", z.difference(0), NONE);
    }

    private static void counterexample() {
        Tested x = machine(3, "0001", 1, 0, 0, 0, 2, 0, 0, 0, 3, 3, 3, 3);
        x.learn(5);
        due("counterexample(-1) at first", x.counterexample(NONE), STATE);
        due("counterexample(-2) at first", x.counterexample(-2), BAD);
        steps(x, 5);
        due("counterexample(-1)", x.counterexample(NONE), 3);
        for (int i = 0; i < 3; i++) {
            due("counterexample(" + i + ")", x.counterexample(i), i);
        }
        due("counterexample(3)", x.counterexample(3), NONE);
        due("counterexample(MAX)", x.counterexample(MAX), NONE);
        due("counterexample(-2)", x.counterexample(-2), BAD);
        x.learn(1000);
        due("counterexample(-1) at the end", x.counterexample(NONE), 3);
        Tested y = new Tested();
        lies(y, "b");
        due("learn", y.learn(1000), 7);
        due("counterexample(-1) of 7", y.counterexample(NONE), 1);
        due("counterexample(0) of 7", y.counterexample(0), 1);
        y.step();
        due("counterexample(-1) of 7", y.counterexample(NONE), 1);
        y.lie();
        due("counterexample(-1) anew", y.counterexample(NONE), STATE);
        // A step that is OUT leaves the one before.
        Tested z = threeAs();
        z.begin(1, 300);
        due("learn", z.learn(1000), 6);
        int all = z.count(6);
        int used = z.count(10);
        boolean met = false;
        for (int budget = 0; budget < all; budget++) {
            z.begin(1, budget);
            z.learn(1000);
            met |= z.count(10) == used - 1 && z.counterexample(NONE) == 3;
        }
        due("an earlier counterexample stays", met ? 1 : 0, 1);
    }

    private static void save() {
        Tested x = threeAs();
        still(x, x.save(2), BAD);
        still(x, x.save(-1), BAD);
        due("restore(0)", x.restore(0), STATE);
        due("restore(1)", x.restore(1), STATE);
        x.learn(3);
        long before = x.digest();
        due("save(0)", x.save(0), 3);
        due("digest() after save(0)", x.digest(), before);
        due("restore(1)", x.restore(1), STATE);
        x.learn(1000);
        due("save(1)", x.save(1), 19);
        due("save(0) in place", x.save(0), 19);
        x.reset(1, 1);
        due("restore(0)", x.restore(0), 19);
        due("states", x.count(9), 4);
    }

    private static void restore() {
        restoreUnseen();
        Tested x = threeAs();
        lies(x, "bbb", "ab");
        x.begin(2, 111);
        due("learn", x.learn(1000), 7);
        long end = x.digest();
        int asked = x.count(6);
        x.save(1);
        int[][] kept = new int[x.count(9)][];
        for (int s = 0; s < kept.length; s++) {
            kept[s] = new int[] {x.hypothesis(s, 0), x.hypothesis(s, 1), x.hypothesis(s, 3), x.hypothesis(s, 4)};
        }
        still(x, x.restore(0), STATE);
        still(x, x.restore(2), BAD);
        still(x, x.restore(-1), BAD);
        x.reset(8, 3);
        x.begin(0, 300);
        x.learn(1000);
        text(x, "cc");
        due("restore(1)", x.restore(1), asked);
        due("the text is not restored", x.count(12), 2);
        x.clearText();
        due("digest()", x.digest(), end);
        for (int s = 0; s < kept.length; s++) {
            due("representative", x.hypothesis(s, 4), kept[s][3]);
        }
        steps(x, 7);
        // What is changed now is not changed in the slot.
        text(x, "bbb");
        due("a lie that was restored", x.lie(), 1);
        x.setMove(0, 0, 3);
        x.learn(20);
        x.clearText();
        due("restore(1) again", x.restore(1), asked);
        due("digest()", x.digest(), end);
        // Where the learner goes on is restored too.
        Tested y = threeAs();
        y.learn(3);
        y.save(0);
        steps(y, 4, 5);
        y.save(1);
        y.restore(0);
        steps(y, 4, 5, 1);
        y.restore(1);
        due("no question asked since", y.count(6), 3);
        steps(y, 1);
        due("learn", y.learn(1000), 6);
        due("questions", y.count(6), 19);
    }

    private static void count() {
        Tested x = threeAs();
        lies(x, "bbbbbbbbbbb");
        x.begin(1, 123);
        due("learn", x.learn(1000), 6);
        text(x, "ab");
        int[] counts = {4, 2, 1, 1, 1, 123, 19, 4, 3, 4, 2, 0, 2};
        for (int what = 0; what < counts.length; what++) {
            due("count(" + what + ")", x.count(what), counts[what]);
        }
        due("count(13)", x.count(13), BAD);
        due("count(-1)", x.count(-1), BAD);
        due("count(MIN)", x.count(MIN), BAD);
        due("count(MAX)", x.count(MAX), BAD);
    }

    private static void digest() {
        // What the digest is made of is tested in LookEdges; here, that each part of it counts.
        Tested x = threeAs();
        Tested y = threeAs();
        due("digest() of the same", x.digest(), y.digest());
        x.type(97);
        y.type(98);
        differ("the text", x, y);
        x.clearText();
        y.clearText();
        due("digest() of the same", x.digest(), y.digest());
        y.begin(1, 200);
        differ("the mode", x, y);
        y.begin(0, 200);
        x.step();
        differ("an answer", x, y);
        x.begin(0, 200);
        y.setMove(3, 1, 2);
        differ("a move", x, y);
        x.setMove(3, 1, 2);
        due("digest() of the same", x.digest(), y.digest());
        x.learn(1000);
        y.learn(1000);
        due("digest() of the same", x.digest(), y.digest());
    }

    private static void differ(String what, Tested x, Tested y) {
        due("digest() with another of " + what, x.digest() == y.digest() ? 1 : 0, 0);
    }
}
