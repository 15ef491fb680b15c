/** The boundary cases of what can be looked at, saved and counted: promises 16 to 25. */
public final class LookEdges {
    private static final int BAD = Tested.BAD, STATE = Tested.STATE, OUT = Tested.OUT;
    private static final int NONE = Tested.NONE, MIN = Tested.MIN, MAX = Tested.MAX;

    public static void main(String[] args) {
        wordBounds();
        wordNames();
        cellBounds();
        cellLetters();
        cellNotAsked();
        hypothesisBounds();
        hypothesisLetters();
        hypothesisRepresentatives();
        guessBounds();
        differenceBounds();
        differenceOrder();
        counterexampleBounds();
        counterexampleLatest();
        saveBounds();
        restoreBounds();
        restoreAll();
        restoreLies();
        restoreCourse();
        countBounds();
        countCorrections();
        digestParts();
        digestOverflow();
        lastCall();
        Tested.end();
    }

    private static void due(long got, long want) {
        Tested.due(got, want);
    }

    private static void still(Tested x, long got, long want) {
        Tested.still(x, got, want);
    }

    /** Four prefixes and four suffixes: the empty word, a, aa and aaa. */
    private static Tested square() {
        Tested x = Tested.threeAs();
        x.begin(2, 200);
        due(x.learn(1000), 6);
        due(x.count(7), 4);
        due(x.count(8), 4);
        return x;
    }

    private static void wordBounds() {
        Tested.sentence("16: the word exists and i is at least NONE");
        for (boolean suffix : new boolean[] {false, true}) {
            Tested x = square();
            x.isWord(suffix, 0, "");
            x.isWord(suffix, 3, "aaa");
            due(x.word(suffix, 3, 2), 0);
            due(x.word(suffix, 3, 3), NONE);
            due(x.word(suffix, 3, MAX), NONE);
            due(x.word(suffix, 0, 0), NONE);
            still(x, x.word(suffix, 4, NONE), BAD);
            still(x, x.word(suffix, -1, NONE), BAD);
            still(x, x.word(suffix, MIN, 0), BAD);
            still(x, x.word(suffix, MAX, 0), BAD);
            still(x, x.word(suffix, 3, -2), BAD);
            still(x, x.word(suffix, 3, MIN), BAD);
            Tested.sentence("16: BAD comes before NONE");
            still(x, x.word(suffix, 4, 99), BAD);
            Tested y = new Tested();
            due(y.word(suffix, 0, NONE), 0);
            still(y, y.word(suffix, 1, NONE), BAD);
        }
    }

    private static void wordNames() {
        Tested.sentence("16: a suffix, else a prefix");
        Tested x = Tested.threeAs();
        x.steps(1, 1, 1, 4, 5);
        x.isWord(false, 3, "aaa");
        still(x, x.word(true, 1, NONE), BAD);
        x.begin(2, 200);
        x.steps(1, 1, 1, 4, 5);
        x.isWord(true, 3, "aaa");
        still(x, x.word(false, 1, NONE), BAD);
        Tested y = Tested.machine(3, "0001", "100", "020", "003", "333");
        y.steps(1, 1, 1, 1, 4, 5);
        due(y.word(false, 3, 0), 0);
        due(y.word(false, 3, 1), 1);
        due(y.word(false, 3, 2), 2);
        due(y.word(false, 3, 3), NONE);
    }

    private static void cellBounds() {
        Tested.sentence("17: the prefix, the letter and the suffix exist");
        Tested x = square();
        due(x.cell(0, NONE, 0), 0);
        due(x.cell(3, NONE, 0), 1);
        due(x.cell(0, NONE, 3), 1);
        due(x.cell(3, 1, 3), 1);
        due(x.cell(2, 1, 2), 0);
        due(x.cell(2, 0, 0), 1);
        still(x, x.cell(4, NONE, 0), BAD);
        still(x, x.cell(-1, NONE, 0), BAD);
        still(x, x.cell(0, -2, 0), BAD);
        still(x, x.cell(0, 2, 0), BAD);
        still(x, x.cell(0, NONE, 4), BAD);
        still(x, x.cell(0, NONE, -1), BAD);
        still(x, x.cell(MAX, 0, 0), BAD);
        still(x, x.cell(0, MAX, 0), BAD);
        still(x, x.cell(0, 0, MAX), BAD);
        still(x, x.cell(MIN, 0, 0), BAD);
        still(x, x.cell(0, MIN, 0), BAD);
        still(x, x.cell(0, 0, MIN), BAD);
    }

    private static void cellLetters() {
        Tested.sentence("17: a letter of the machine, or NONE for the prefix itself");
        for (int letters = 1; letters <= 3; letters++) {
            Tested x = new Tested();
            x.reset(2, letters);
            x.setMove(0, letters - 1, 1);
            x.setFinal(1, true);
            x.learn(1 + letters);
            due(x.cell(0, NONE, 0), 0);
            due(x.cell(0, letters - 1, 0), 1);
            still(x, x.cell(0, letters, 0), BAD);
            still(x, x.cell(0, -2, 0), BAD);
        }
    }

    private static void cellNotAsked() {
        Tested.sentence("17: NONE if this was not asked");
        Tested x = Tested.threeAs().lies("b");
        still(x, x.cell(0, NONE, 0), NONE);
        still(x, x.cell(0, 0, 0), NONE);
        still(x, x.cell(0, 1, 0), NONE);
        x.text("b");
        due(x.ask(), 1);
        still(x, x.cell(0, 1, 0), 1);
        still(x, x.cell(0, 0, 0), NONE);
        still(x, x.cell(0, NONE, 0), NONE);
        x.steps(1);
        due(x.cell(0, NONE, 0), 0);
        due(x.cell(0, 0, 0), NONE);
        Tested.sentence("17: BAD comes before NONE");
        still(x, x.cell(0, 2, 0), BAD);
        still(x, x.cell(1, 0, 0), BAD);
        x.begin(0, 200);
        due(x.cell(0, 1, 0), NONE);
    }

    private static void hypothesisBounds() {
        Tested.sentence("18: BAD, then STATE, then NONE");
        Tested x = Tested.threeAs();
        x.learn(3);
        still(x, x.hypothesis(0, -1), BAD);
        still(x, x.hypothesis(0, 2), BAD);
        still(x, x.hypothesis(0, 5), BAD);
        still(x, x.hypothesis(-1, 5), BAD);
        for (int what : new int[] {0, 1, 3, 4}) {
            still(x, x.hypothesis(0, what), STATE);
            still(x, x.hypothesis(-1, what), STATE);
            still(x, x.hypothesis(40, what), STATE);
        }
        x.learn(1000);
        due(x.count(9), 4);
        for (int what : new int[] {0, 1, 3, 4}) {
            due(x.hypothesis(3, what), what == 3 ? 1 : 3);
            still(x, x.hypothesis(4, what), NONE);
            still(x, x.hypothesis(-1, what), NONE);
            still(x, x.hypothesis(MAX, what), NONE);
            still(x, x.hypothesis(MIN, what), NONE);
        }
        for (int what : new int[] {-1, 2, 5, MIN, MAX}) {
            still(x, x.hypothesis(0, what), BAD);
            still(x, x.hypothesis(4, what), BAD);
        }
    }

    private static void hypothesisLetters() {
        Tested.sentence("18: BAD for a letter that does not exist");
        for (int letters = 1; letters <= 3; letters++) {
            Tested x = new Tested();
            x.reset(2, letters);
            x.setMove(0, letters - 1, 1);
            x.setFinal(1, true);
            due(x.learn(1000), 6);
            due(x.hypothesis(0, letters - 1), 1);
            due(x.hypothesis(0, 3), 0);
            due(x.hypothesis(1, 3), 1);
            for (int what = letters; what < 3; what++) {
                still(x, x.hypothesis(0, what), BAD);
            }
        }
    }

    private static void hypothesisRepresentatives() {
        Tested.sentence("18: the number of the prefix, which need not be that of the state");
        Tested x = Tested.machine(2, "10000001", "14", "25", "36", "07", "50", "61", "72", "43");
        x.begin(0, 300);
        due(x.learn(1000), 6);
        due(x.count(7), 12);
        due(x.count(9), 8);
        boolean skipped = false;
        for (int s = 0; s < 8; s++) {
            int k = x.hypothesis(s, 4);
            due(k > (s == 0 ? -1 : x.hypothesis(s - 1, 4)) ? 1 : 0, 1);
            due(x.hypothesis(s, 3), x.cell(k, NONE, 0));
            skipped |= k != s;
        }
        due(x.hypothesis(0, 4), 0);
        due(x.hypothesis(8, 4), NONE);
        Tested.due("a prefix that is no representative", skipped ? 1 : 0, 1);
    }

    private static void guessBounds() {
        Tested.sentence("19: BAD comes before STATE");
        Tested x = Tested.threeAs();
        still(x, x.guess(), STATE);
        x.text("c");
        still(x, x.guess(), BAD);
        x.learn(3);
        still(x, x.guess(), BAD);
        x.text("");
        still(x, x.guess(), STATE);
        x.learn(1);
        still(x, x.guess(), 0);
        x.text("aaa");
        still(x, x.guess(), 0);
        Tested.sentence("19: a word of 0 to 16 letters");
        due(x.learn(1000), 6);
        still(x, x.guess(), 1);
        x.text("bbbbbbbbbbbbbaaa");
        still(x, x.guess(), 1);
        x.text("bbbbbbbbbbbbbbaa");
        still(x, x.guess(), 0);
        for (int b : new int[] {'a' - 1, 'c', 0, 127}) {
            x.text("a");
            x.type(b);
            still(x, x.guess(), BAD);
        }
        Tested y = new Tested().lies("");
        due(y.learn(1000), 7);
        still(y, y.guess(), 1);
    }

    private static void differenceBounds() {
        Tested.sentence("20: BAD, then STATE, then NONE");
        Tested x = Tested.threeAs();
        still(x, x.difference(-2), BAD);
        still(x, x.difference(MIN), BAD);
        still(x, x.difference(NONE), STATE);
        still(x, x.difference(0), STATE);
        still(x, x.difference(MAX), STATE);
        x.learn(4);
        still(x, x.difference(NONE), 3);
        still(x, x.difference(0), 0);
        still(x, x.difference(2), 0);
        still(x, x.difference(3), NONE);
        still(x, x.difference(MAX), NONE);
        still(x, x.difference(-2), BAD);
        Tested.sentence("20: as they are now");
        x.steps(5);
        still(x, x.difference(NONE), 3);
        due(x.learn(1000), 6);
        still(x, x.difference(NONE), NONE);
        still(x, x.difference(0), NONE);
        still(x, x.difference(-2), BAD);
        Tested.sentence("20: the empty word");
        Tested y = new Tested().lies("");
        due(y.learn(7), 4);
        still(y, y.difference(NONE), 0);
        still(y, y.difference(0), NONE);
    }

    private static void differenceOrder() {
        Tested.sentence("20: the least word, by its length and then by its letters");
        Tested x = Tested.machine(3, "000001", "123", "445", "454", "544", "444", "444");
        x.learn(5);
        due(x.difference(NONE), 2);
        due(x.difference(0), 0);
        due(x.difference(1), 2);
        Tested y = Tested.machine(3, "00010", "124", "333", "444", "333", "144");
        y.learn(5);
        // All words of one letter are rejected, and of two letters aa is the first accepted.
        due(y.difference(NONE), 2);
        due(y.difference(0), 0);
        due(y.difference(1), 0);
    }

    private static void counterexampleBounds() {
        Tested.sentence("21: BAD, then STATE, then NONE");
        Tested x = Tested.machine(3, "0001", "100", "020", "003", "333");
        x.learn(5);
        still(x, x.counterexample(-2), BAD);
        still(x, x.counterexample(MIN), BAD);
        still(x, x.counterexample(NONE), STATE);
        still(x, x.counterexample(0), STATE);
        still(x, x.counterexample(MAX), STATE);
        x.steps(5);
        still(x, x.counterexample(NONE), 3);
        still(x, x.counterexample(0), 0);
        still(x, x.counterexample(1), 1);
        still(x, x.counterexample(2), 2);
        still(x, x.counterexample(3), NONE);
        still(x, x.counterexample(MAX), NONE);
        still(x, x.counterexample(-2), BAD);
        Tested.sentence("21: the empty word, which a step used that returned 7");
        Tested y = new Tested().lies("");
        y.learn(1000);
        still(y, y.counterexample(NONE), 0);
        still(y, y.counterexample(0), NONE);
    }

    private static void counterexampleLatest() {
        Tested.sentence("21: the latest one that a step used");
        Tested x = Tested.machine(2, "11111110", "24", "61", "75", "15", "14", "21", "31", "25")
                .lies("baababaa", "baababaaa");
        x.begin(1, 300);
        String[] used = {"aa", "baa", "baaabaa", "baaabaa", "baaabaa", "abbaabaa", "baababaa"};
        int met = 0;
        for (int i = 0; i < 200 && met < used.length; i++) {
            int did = x.step();
            if (did == 5 || did == 7) {
                x.isCounterexample(used[met]);
                met++;
                due(x.count(10), met);
                due(x.count(11), did == 7 ? 1 : 0);
            }
        }
        x.steps(7);
        x.isCounterexample("baababaa");
        Tested.sentence("21: not one of a step that returned OUT");
        x.begin(1, 97);
        due(x.learn(1000), OUT);
        due(x.difference(NONE), 8);
        x.isCounterexample("baaabaa");
        x.setFinal(7, true);
        still(x, x.counterexample(NONE), STATE);
    }

    private static void saveBounds() {
        Tested.sentence("22: the slot is 0 or 1");
        Tested x = Tested.threeAs().lies("bb");
        x.learn(3);
        still(x, x.save(-1), BAD);
        still(x, x.save(2), BAD);
        still(x, x.save(MIN), BAD);
        still(x, x.save(MAX), BAD);
        due(x.restore(0), STATE);
        due(x.restore(1), STATE);
        due(x.save(1), 3);
        due(x.restore(0), STATE);
        due(x.restore(1), 3);
        x.learn(4);
        int asked = x.count(6);
        due(x.save(0), asked);
        due(x.restore(1), 3);
        due(x.restore(0), asked);
        Tested.sentence("22: in place of what was saved there");
        x.begin(2, 7);
        due(x.save(1), 0);
        due(x.restore(0), asked);
        due(x.count(4), 0);
        due(x.restore(1), 0);
        due(x.count(4), 2);
        due(x.count(5), 7);
        still(x, x.save(2), BAD);
        still(x, x.save(-1), BAD);
    }

    private static void restoreBounds() {
        Tested.sentence("23: BAD; STATE if nothing was saved there");
        Tested x = Tested.threeAs();
        x.learn(6);
        still(x, x.restore(0), STATE);
        still(x, x.restore(1), STATE);
        still(x, x.restore(-1), BAD);
        still(x, x.restore(2), BAD);
        still(x, x.restore(MIN), BAD);
        still(x, x.restore(MAX), BAD);
        x.save(0);
        still(x, x.restore(1), STATE);
        still(x, x.restore(2), BAD);
        int asked = x.count(6);
        still(x, x.restore(0), asked);
        Tested y = Tested.threeAs();
        y.save(1);
        y.step();
        still(y, y.restore(0), STATE);
        due(y.restore(1), 0);
    }

    private static void restoreAll() {
        Tested.sentence("23: the machine, the lies and the learner are restored; the text is not");
        Tested x = Tested.machine(2, "00110111", "65", "44", "34", "02", "63", "74", "70", "15")
                .lies("aaaabbbbba", "babbaab");
        x.begin(1, 92);
        due(x.learn(1000), OUT);
        long end = x.digest();
        due(x.save(1), 92);
        x.reset(1, 3);
        x.begin(0, 300);
        x.text("cc");
        x.lie();
        due(x.learn(1000) >= 6 ? 1 : 0, 1);
        due(x.restore(1), 92);
        due(x.count(12), 2);
        due(x.accepts(), BAD);
        x.clearText();
        due(x.digest(), end);
        x.steps(OUT);
        Tested.sentence("23: where it stays saved, whatever is done then");
        x.text("babbaab");
        due(x.lie(), 1);
        x.setMove(0, 0, 0);
        x.setFinal(7, false);
        x.begin(2, 300);
        x.learn(50);
        x.clearText();
        due(x.restore(1), 92);
        due(x.digest(), end);
        x.text("babbaab");
        due(x.lie(), 1);
        due(x.restore(1), 92);
        due(x.count(3), 2);
    }

    private static void restoreLies() {
        Tested.sentence("23: the lies that were saved, and no others");
        Tested x = new Tested().lies("a", "b");
        x.save(0);
        x.lies("a", "b");
        due(x.count(3), 0);
        due(x.save(1), 0);
        x.lies("ab", "ba", "bb", "aa");
        due(x.count(3), 4);
        lied(x, 0, 2, "a", "b");
        lied(x, 1, 0);
        x.text("a");
        due(x.lie(), 1);
        lied(x, 0, 2, "a", "b");
        x.lies("ab", "ba");
        due(x.count(3), 4);
        x.text("bb");
        still(x, x.lie(), Tested.FULL);
        x.save(1);
        lied(x, 0, 2, "a", "b");
        lied(x, 1, 4, "a", "b", "ab", "ba");
    }

    /** Restores the slot; just these words are lies then, of all with one letter or two. */
    private static void lied(Tested x, int slot, int number, String... lies) {
        due(x.restore(slot) >= 0 ? 1 : 0, 1);
        due(x.count(3), number);
        for (String word : new String[] {"a", "b", "aa", "ab", "ba", "bb"}) {
            x.text(word);
            due(x.ask(), java.util.List.of(lies).contains(word) ? 1 : 0);
        }
        x.restore(slot);
    }

    private static void restoreCourse() {
        Tested.sentence("23: where the learner was on its way");
        Tested x = Tested.threeAs();
        x.learn(3);
        due(x.save(0), 3);
        x.steps(4);
        due(x.save(1), 3);
        x.steps(5);
        due(x.restore(0), 3);
        x.steps(4);
        due(x.restore(1), 3);
        x.steps(5, 1);
        due(x.restore(1), 3);
        x.steps(5);
        due(x.save(0), 3);
        x.begin(0, 200);
        due(x.restore(0), 3);
        x.isCounterexample("aaa");
        x.steps(1, 1, 1, 1, 1, 1, 3);
        Tested.sentence("23: the representatives");
        Tested y = Tested.machine(2, "10000001", "14", "25", "36", "07", "50", "61", "72", "43");
        y.begin(0, 300);
        due(y.learn(1000), 6);
        int[] kept = new int[8];
        for (int s = 0; s < 8; s++) {
            kept[s] = y.hypothesis(s, 4);
        }
        y.save(1);
        y.begin(1, 300);
        due(y.learn(1000), 6);
        due(y.hypothesis(7, 4), 7);
        due(y.restore(1), 77);
        for (int s = 0; s < 8; s++) {
            due(y.hypothesis(s, 4), kept[s]);
        }
        due(kept[7] > 7 ? 1 : 0, 1);
        Tested.sentence("23: that a lie was noticed");
        Tested z = new Tested().lies("b");
        due(z.learn(1000), 7);
        z.save(0);
        z.begin(0, 200);
        z.save(1);
        z.restore(0);
        due(z.count(11), 1);
        still(z, z.step(), 7);
        z.restore(1);
        due(z.count(11), 0);
        z.steps(1);
    }

    private static void countBounds() {
        Tested.sentence("24: what is 0 to 12");
        Tested x = Tested.machine(2, "01111111", "36", "55", "34", "20", "21", "47", "56", "51")
                .lies("bababbab", "bababaab", "bababaaab", "babbbabb");
        x.begin(0, 300);
        due(x.learn(1000), Tested.FULL);
        x.text("abababababababab");
        x.counts(8, 2, 7, 4, 0, 300, 286, 40, 6, 7, 6, 0, 16);
        still(x, x.count(-1), BAD);
        still(x, x.count(13), BAD);
        still(x, x.count(MIN), BAD);
        still(x, x.count(MAX), BAD);
        new Tested().counts(1, 2, 0, 0, 0, 200, 0, 1, 1, 0, 0, 0, 0);
        Tested.sentence("24: 0 states of the hypothesis without one");
        Tested y = new Tested();
        y.steps(1, 1, 1);
        due(y.count(9), 0);
        y.steps(4);
        due(y.count(9), 1);
        y.setMove(0, 0, 0);
        due(y.count(9), 0);
    }

    private static void countCorrections() {
        Tested.sentence("24: the steps that returned 5, and the first one that returned 7");
        Tested x = new Tested().lies("a");
        x.begin(2, 200);
        x.steps(1, 1, 1, 2, 1, 1, 4);
        due(x.count(10), 0);
        x.steps(5);
        due(x.count(10), 1);
        due(x.count(11), 0);
        due(x.learn(1000), 7);
        due(x.count(10), 2);
        due(x.count(11), 1);
        x.steps(7, 7, 7);
        due(x.count(10), 2);
        due(x.count(11), 1);
        x.begin(2, 200);
        due(x.count(10), 0);
        due(x.count(11), 0);
    }

    /** Makes the numbers of the document one by one from the other calls. */
    private static long folded(Tested x, String text) {
        long h = 59;
        for (int what = 0; what <= 12; what++) h = 31 * h + x.count(what);
        int states = x.count(0), letters = x.count(1), prefixes = x.count(7), suffixes = x.count(8);
        for (int s = 0; s < states; s++) {
            for (int a = 0; a < letters; a++) h = 31 * h + x.state(s, a);
            h = 31 * h + x.state(s, 3);
        }
        h = 31 * h + x.leastStates();
        for (int p = 0; p < prefixes; p++) {
            int length = x.word(false, p, NONE);
            h = 31 * h + length;
            for (int i = 0; i < length; i++) h = 31 * h + x.word(false, p, i);
            for (int s = 0; s < suffixes; s++) h = 31 * h + x.cell(p, NONE, s);
        }
        for (int p = 0; p < prefixes; p++) {
            for (int a = 0; a < letters; a++) {
                for (int s = 0; s < suffixes; s++) h = 31 * h + x.cell(p, a, s);
            }
        }
        for (int k = 0; k < suffixes; k++) {
            int length = x.word(true, k, NONE);
            h = 31 * h + length;
            for (int i = 0; i < length; i++) h = 31 * h + x.word(true, k, i);
        }
        int formed = x.count(9);
        for (int s = 0; s < formed; s++) {
            for (int a = 0; a < letters; a++) h = 31 * h + x.hypothesis(s, a);
            h = 31 * h + x.hypothesis(s, 3);
        }
        int length = x.counterexample(NONE);
        for (int i = 0; i < length; i++) h = 31 * h + x.counterexample(i);
        for (char c : text.toCharArray()) h = 31 * h + c;
        return h;
    }

    private static void digestParts() {
        Tested.sentence("25: nothing asked, no hypothesis, no counterexample, no text");
        Tested x = new Tested();
        long first = folded(x, "");
        still(x, x.digest(), first);
        Tested.sentence("25: in every stage, with answers that are not known yet");
        for (int mode = 0; mode <= 2; mode++) {
            for (int stop = 1; stop <= 27; stop += 2) {
                Tested y = Tested.threeAs();
                y.begin(mode, 200);
                y.learn(stop);
                long want = folded(y, "");
                due(y.digest(), want);
            }
        }
        Tested.sentence("25: the bytes of the text, from 0 to 127");
        Tested z = new Tested();
        String text = "" + (char) 0 + (char) 127 + "abcd" + (char) 0 + "zzzzzzzzz";
        for (char c : text.toCharArray()) z.type(c);
        due(z.digest(), folded(z, text));
        Tested.sentence("25: an empty counterexample");
        Tested w = new Tested().lies("");
        due(w.learn(1000), 7);
        due(w.digest(), folded(w, ""));
        Tested.sentence("25: three letters and eight states");
        Tested v = Tested.machine(3, "00000001", "123", "234", "345", "456", "567", "670", "701", "012");
        v.learn(12);
        due(v.digest(), folded(v, ""));
    }

    private static void digestOverflow() {
        Tested.sentence("25: long arithmetic with overflow");
        due(finalOne().digest(), 7960790513451474364L);
        boolean positive = false, negative = false;
        for (int stop = 1; stop <= 20; stop++) {
            Tested x = Tested.threeAs();
            x.learn(stop);
            long h = x.digest();
            positive |= h > 0;
            negative |= h < 0;
        }
        Tested.due("digests of both signs", positive && negative ? 1 : 0, 1);
    }

    /** As the first run of the shared tests ends: its digest is told there. */
    private static Tested finalOne() {
        Tested x = new Tested();
        x.begin(2, 2);
        x.setFinal(0, true);
        return x;
    }

    private static void lastCall() {
        Tested.sentence("an object is used for at most 512 calls");
        Tested x = Tested.threeAs();
        x.begin(0, 300);
        while (x.callsMade() < Tested.MOST_CALLS - 3) {
            x.type(x.callsMade() % 3 == 0 ? 'b' : 'a');
            if (x.callsMade() % 16 == 0) x.clearText();
        }
        while (x.callsMade() < Tested.MOST_CALLS - 1) {
            x.count(12);
        }
        due(x.learn(1000), 6);
        due(x.callsMade(), Tested.MOST_CALLS);
    }
}
