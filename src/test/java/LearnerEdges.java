/** The boundary cases of the learner: promises 12 to 15 and the steps that they rest on. */
public final class LearnerEdges {
    private static final int BAD = Tested.BAD, STATE = Tested.STATE, OUT = Tested.OUT;
    private static final int NONE = Tested.NONE, MIN = Tested.MIN, MAX = Tested.MAX;

    public static void main(String[] args) {
        beginBounds();
        beginForgets();
        beginFreesRoom();
        noBudget();
        smallBudget();
        greatestBudget();
        budgetUsedUp();
        knownAnswers();
        firstWord();
        firstExtension();
        firstSeparator();
        formedOnce();
        doneChangesNothing();
        beginnings();
        shortSplits();
        splitHalves();
        splitKnown();
        ends();
        deceived();
        outInSplit();
        outBeforeFull();
        learnBounds();
        learnCounts();
        askBounds();
        Tested.end();
    }

    private static void due(long got, long want) {
        Tested.due(got, want);
    }

    private static void still(Tested x, long got, long want) {
        Tested.still(x, got, want);
    }

    private static void beginBounds() {
        Tested.sentence("12: the mode is 0 to 2, the budget 0 to 300");
        Tested x = Tested.threeAs().lies("ab");
        due(x.begin(2, 300), 0);
        due(x.learn(1000), 7);
        still(x, x.begin(-1, 0), BAD);
        still(x, x.begin(3, 0), BAD);
        still(x, x.begin(0, -1), BAD);
        still(x, x.begin(0, 301), BAD);
        still(x, x.begin(MIN, 0), BAD);
        still(x, x.begin(MAX, 300), BAD);
        still(x, x.begin(1, MIN), BAD);
        still(x, x.begin(1, MAX), BAD);
        due(x.count(5), 300);
        due(x.begin(0, 0), 2);
        due(x.count(4), 0);
        due(x.count(5), 0);
        due(x.begin(1, 1), 0);
        due(x.begin(1, 300), 1);
        due(x.begin(2, 0), 1);
    }

    private static void beginForgets() {
        Tested.sentence("12: the table as it is at first, without questions, hypothesis and counterexample");
        Tested x = Tested.threeAs().lies("ab");
        x.begin(2, 300);
        due(x.learn(1000), 7);
        x.text("ab");
        due(x.begin(2, 300), 2);
        x.counts(4, 2, 1, 1, 2, 300, 0, 1, 1, 0, 0, 0, 2);
        x.isWord(false, 0, "");
        x.isWord(true, 0, "");
        still(x, x.counterexample(NONE), STATE);
        still(x, x.hypothesis(0, 0), STATE);
        still(x, x.difference(NONE), STATE);
        due(x.cell(0, NONE, 0), NONE);
        due(x.cell(0, 0, 0), NONE);
        due(x.cell(0, 1, 0), NONE);
        x.steps(1, 1, 1, 4);
    }

    private static void beginFreesRoom() {
        Tested.sentence("12: the table has room again as at first");
        for (int before = 0; before <= 2; before++) {
            for (int after = 0; after <= 2; after++) {
                Tested x = Tested.cycle(6, 0).lies(Tested.as(7));
                x.begin(after, 300);
                int did = x.learn(1000);
                long end = x.digest();
                x.lies(Tested.as(7), Tested.as(12));
                x.begin(before, 300);
                x.learn(1000);
                x.lies(Tested.as(7), Tested.as(12));
                x.begin(after, 300);
                due(x.learn(1000), did);
                due(x.digest(), end);
            }
        }
        // The longest prefix has ten letters before, and the longest suffix seven after.
        Tested y = Tested.machine(2, "00110111", "65", "44", "34", "02", "63", "74", "70", "15")
                .lies("aaaabbbbba", "babbaab");
        y.begin(1, 300);
        due(y.learn(1000), Tested.FULL);
        y.reset(8, 1);
        for (int s = 0; s < 8; s++) {
            y.setMove(s, 0, (s + 1) % 8);
        }
        y.setFinal(7, true);
        y.begin(2, 300);
        due(y.learn(1000), 6);
        due(y.word(true, y.count(8) - 1, NONE), 7);
    }

    private static void noBudget() {
        Tested.sentence("13: no question is possible with the budget 0");
        Tested x = new Tested();
        for (int mode = 0; mode <= 2; mode++) {
            x.begin(mode, 0);
            still(x, x.step(), OUT);
            still(x, x.learn(1000), OUT);
            still(x, x.ask(), OUT);
        }
    }

    private static void smallBudget() {
        Tested.sentence("13: possible only if fewer questions were asked than the budget allows");
        Tested x = new Tested();
        x.begin(0, 1);
        x.steps(1);
        still(x, x.step(), OUT);
        x.begin(0, 2);
        x.steps(1, 1);
        due(x.count(6), 2);
        still(x, x.step(), OUT);
        x.begin(0, 3);
        x.steps(1, 1, 1, 4, 6);
        due(x.count(6), 3);
    }

    /** Asks 300 questions and needs still more. */
    private static Tested manyQuestions() {
        return Tested.machine(2, "11001010", "32", "53", "12", "63", "57", "43", "04", "76")
                .lies("baaaaaa", "abbaaaaa", "abaaaaaa", "aaaaaaaa");
    }

    private static void greatestBudget() {
        Tested.sentence("13: the 300th question is possible, the 301st is not");
        Tested x = manyQuestions();
        x.begin(0, 300);
        x.learn(320);
        for (int i = 0; i < 60 && x.count(6) < 299; i++) {
            x.step();
        }
        due(x.count(6), 299);
        x.steps(1);
        due(x.count(6), 300);
        still(x, x.step(), OUT);
        still(x, x.learn(1000), OUT);
        x.text("bbbbbbbbbbbbbbbb");
        still(x, x.ask(), OUT);
        x.text("");
        int known = x.cell(0, NONE, 0);
        still(x, x.ask(), known);
        Tested.sentence("13: with the budget 299 the 300th is not");
        Tested y = manyQuestions();
        y.begin(0, 299);
        due(y.learn(1000), OUT);
        due(y.count(6), 299);
        still(y, y.step(), OUT);
    }

    private static void budgetUsedUp() {
        Tested.sentence("13: a step that needs no new question is done also if none is possible");
        Tested x = Tested.threeAs();
        x.begin(0, 9);
        x.steps(1, 1, 1, 4, 5, 1, 1, 1, 1, 1, 1);
        due(x.count(6), 9);
        x.steps(3);
        still(x, x.step(), OUT);
        x.begin(0, 3);
        x.steps(1, 1, 1, 4, 5);
        still(x, x.step(), OUT);
        x.begin(2, 3);
        x.steps(1, 1, 1, 4, 5);
        still(x, x.step(), OUT);
        x.begin(0, 19);
        due(x.learn(1000), 6);
        due(x.count(6), 19);
        x.begin(0, 18);
        due(x.learn(1000), OUT);
        due(x.count(6), 18);
        Tested y = new Tested().lies("a");
        y.begin(0, 3);
        y.steps(1, 1, 1, 2);
        still(y, y.step(), OUT);
        y.begin(0, 5);
        y.steps(1, 1, 1, 2, 1, 1, 4, 7);
        still(y, y.step(), 7);
    }

    private static void knownAnswers() {
        Tested.sentence("13: the answer is known if it was asked before, since the learner began");
        Tested x = Tested.threeAs();
        x.begin(0, 3);
        for (String word : new String[] {"b", "", "aab"}) {
            x.text(word);
            due(x.ask(), 0);
        }
        still(x, x.ask(), 0);
        x.text("b");
        still(x, x.ask(), 0);
        due(x.count(6), 3);
        due(x.cell(0, 0, 0), NONE);
        still(x, x.step(), OUT);
        x.begin(0, 3);
        due(x.count(6), 0);
        due(x.cell(0, 1, 0), NONE);
        due(x.ask(), 0);
        due(x.count(6), 1);
        x.steps(1, 1, 4, 5);
        still(x, x.step(), OUT);
    }

    private static void firstWord() {
        Tested.sentence("13, step 1: in the order of prefixes and then of extensions, and of suffixes");
        Tested x = Tested.threeAs();
        x.begin(2, 200);
        x.steps(1, 1, 1, 4, 5);
        // The suffixes are now the empty word, a, aa and aaa; a, b and the empty word were asked.
        int[][] open = {
            {0, NONE, 2}, {0, NONE, 3}, {0, 0, 3}, {0, 1, 1}, {0, 1, 2}, {0, 1, 3}};
        for (int[] c : open) {
            due(x.cell(c[0], c[1], c[2]), NONE);
            x.steps(1);
            due(x.cell(c[0], c[1], c[2]) == NONE ? 1 : 0, 0);
        }
        x.steps(2);
        Tested y = Tested.threeAs();
        y.steps(1, 1, 1, 4, 5);
        // All prefixes come before all extensions.
        for (int[] c : new int[][] {{2, NONE}, {3, NONE}, {1, 1}, {2, 1}, {3, 0}, {3, 1}}) {
            due(y.cell(c[0], c[1], 0), NONE);
            y.steps(1);
            due(y.cell(c[0], c[1], 0) == NONE ? 1 : 0, 0);
        }
        y.steps(3);
    }

    private static void firstExtension() {
        Tested.sentence("13, step 2: the first such extension becomes the last prefix");
        Tested x = Tested.machine(3, "011", "122", "000", "000");
        x.steps(1, 1, 1, 1, 2);
        due(x.count(7), 2);
        x.isWord(false, 1, "a");
        Tested y = Tested.machine(3, "001", "022", "000", "000");
        y.steps(1, 1, 1, 1, 2);
        due(y.count(7), 2);
        y.isWord(false, 1, "b");
        Tested z = Tested.machine(3, "001", "002", "000", "000");
        z.steps(1, 1, 1, 1, 2);
        z.isWord(false, 1, "c");
        Tested.sentence("13, step 2: not if its row is the row of a prefix");
        Tested w = Tested.machine(3, "1", "000");
        w.steps(1, 1, 1, 1, 4, 6);
    }

    private static void firstSeparator() {
        Tested.sentence("13, step 3: the first p, the first q, the least a and the first s");
        Tested all = Tested.machine(3, "000100", "323", "422", "035", "340", "050", "232");
        separatedAt(all, 39, "b");
        Tested.sentence("13, step 3: the first p");
        separatedAt(Tested.machine(2, "0010", "23", "02", "12", "10"), 13, "a");
        Tested.sentence("13, step 3: the first q behind it");
        separatedAt(Tested.machine(2, "1000", "20", "00", "03", "13"), 13, "a");
        Tested.sentence("13, step 3: the least a");
        separatedAt(Tested.machine(2, "010", "22", "10", "11"), 10, "a");
        Tested.sentence("13, step 3: the first s");
        separatedAt(Tested.machine(2, "1001", "31", "10", "11", "23"), 19, "b");
    }

    private static void separatedAt(Tested x, int step, String suffix) {
        x.begin(0, 300);
        x.learn(step - 1);
        int before = x.count(8);
        x.steps(3);
        due(x.count(8), before + 1);
        x.isWord(true, before, suffix);
    }

    private static void formedOnce() {
        Tested.sentence("13, step 4: only if none was formed since a prefix or suffix was added");
        Tested x = Tested.threeAs();
        x.steps(1, 1, 1);
        due(x.count(9), 0);
        x.steps(4);
        due(x.count(9), 1);
        x.steps(5);
        Tested.sentence("13, step 4: the hypothesis is kept until the next one is formed");
        x.steps(1, 1, 1, 1, 1, 1, 3);
        due(x.count(9), 1);
        due(x.hypothesis(0, 0), 0);
        due(x.hypothesis(1, 0), NONE);
        x.steps(1, 1, 1, 1, 1, 3, 1, 1, 1, 1, 1);
        due(x.count(9), 1);
        x.steps(4);
        due(x.count(9), 4);
        Tested y = new Tested();
        y.steps(1, 1, 1, 4, 6, 6);
        y.text("abab");
        y.ask();
        y.steps(6);
    }

    private static void doneChangesNothing() {
        Tested.sentence("13, step 6: nothing happens");
        for (int mode = 0; mode <= 2; mode++) {
            Tested x = Tested.threeAs();
            x.begin(mode, 200);
            due(x.learn(1000), 6);
            still(x, x.step(), 6);
            still(x, x.learn(1000), 6);
            x.text("bbbb");
            due(x.ask(), 0);
            still(x, x.step(), 6);
            due(x.count(11), 0);
        }
    }

    private static void beginnings() {
        Tested.sentence("13, mode 0: all words with which it begins, itself included, that are none yet");
        Tested x = Tested.machine(3, "0001", "100", "020", "003", "333");
        x.steps(1, 1, 1, 1, 4, 5);
        due(x.count(7), 4);
        x.isWord(false, 0, "");
        x.isWord(false, 1, "a");
        x.isWord(false, 2, "ab");
        x.isWord(false, 3, "abc");
        due(x.count(8), 1);
        x.isCounterexample("abc");
        Tested.sentence("13, mode 0: a word that is a prefix already is not put in once more");
        Tested y = Tested.machine(2, "01111111", "36", "55", "34", "20", "21", "47", "56", "51");
        y.steps(1, 1, 1, 2);
        y.isWord(false, 1, "a");
        y.steps(1, 1, 4, 5);
        y.isCounterexample("bb");
        due(y.count(7), 4);
        y.isWord(false, 2, "b");
        y.isWord(false, 3, "bb");
        y.steps(1, 1, 1, 1, 3, 1, 1, 1, 1, 1, 4, 5);
        y.isCounterexample("aaab");
        due(y.count(7), 7);
        y.isWord(false, 4, "aa");
        y.isWord(false, 5, "aaa");
        y.isWord(false, 6, "aaab");
        Tested.sentence("13, mode 0: 7 if all of them are prefixes");
        Tested z = new Tested().lies("a");
        z.steps(1, 1, 1, 2, 1, 1, 4, 7);
        z.isCounterexample("a");
        due(z.count(7), 2);
    }

    private static void shortSplits() {
        Tested.sentence("13, mode 1: a counterexample of no letter or one adds the empty word, which is there");
        for (String lie : new String[] {"", "a", "b"}) {
            Tested x = new Tested().lies(lie);
            x.begin(1, 200);
            due(x.learn(7), 4);
            int asked = x.count(6);
            x.steps(7);
            due(x.count(6), asked);
            due(x.count(8), 1);
            due(x.count(10), 1);
            due(x.count(11), 1);
            x.isCounterexample(lie);
        }
    }

    private static void splitHalves() {
        Tested.sentence("13, mode 1: two letters, question(1) differs");
        // Accepts only ba. The other question is a, which was asked.
        split(Tested.machine(2, "0010", "31", "23", "33", "33"), 5, 3, "ba", "a", "ba");
        Tested.sentence("13, mode 1: three letters, the half of 3 is 1");
        split(Tested.threeAs(), 5, 3, "aaa", "aa", "aaa", "aa");
        Tested.sentence("13, mode 1: four letters, 2 and 1 differ");
        split(Tested.machine(1, "00100", "3", "4", "1", "1", "2"), 4, 2, "aaaa", "aaa",
                "aaaa", "aa", "aaa");
        Tested.sentence("13, mode 1: four letters, 2 is equal, 3 differs");
        split(Tested.machine(2, "0111", "11", "30", "01", "21"), 16, 11, "aaaa", "a", "aaaa");
        Tested.sentence("13, mode 1: five letters, 2 is equal, 3 differs");
        split(Tested.machine(2, "001100", "42", "34", "54", "53", "52", "21"), 26, 19, "aabab", "ab",
                "aabab", "babab", "baab");
        Tested.sentence("13, mode 1: six letters, 3 differs, 1 and 2 are equal");
        split(Tested.machine(2, "101100", "34", "52", "44", "54", "53", "31"), 20, 14, "aabbaa", "baa",
                "aabbaa", "bbaa", "babbaa");
    }

    /**
     * The step with this number uses the example and adds the suffix; before it so many questions
     * were asked, and it asks these. With fewer it is OUT, and those that were possible are asked.
     */
    private static void split(Tested x, int step, int asked, String example, String suffix, String... asks) {
        for (int possible = 0; possible < asks.length; possible++) {
            x.begin(1, asked + possible);
            due(x.learn(step - 1), 4);
            due(x.count(6), asked);
            String[] first = java.util.Arrays.copyOf(asks, possible);
            Tested.stillButAsked(x, x.step(), OUT, first);
            still(x, x.step(), OUT);
        }
        x.begin(1, asked + asks.length);
        due(x.learn(step - 1), 4);
        int suffixes = x.count(8);
        int prefixes = x.count(7);
        x.steps(5);
        due(x.count(6), asked + asks.length);
        due(x.count(7), prefixes);
        due(x.count(8), suffixes + 1);
        x.isWord(true, suffixes, suffix);
        x.isCounterexample(example);
    }

    private static void splitKnown() {
        Tested.sentence("13, mode 1: a question that was asked before is no new one");
        Tested x = Tested.threeAs();
        x.begin(1, 5);
        for (String word : new String[] {"aaa", "aa", "", "a", "b"}) {
            x.text(word);
            x.ask();
        }
        x.steps(4, 5);
        due(x.count(6), 5);
        x.isWord(true, 1, "aa");
        still(x, x.step(), OUT);
    }

    private static void ends() {
        Tested.sentence("13, mode 2: all words with which it ends, itself included, that are none yet");
        Tested x = Tested.machine(3, "0001", "100", "020", "003", "333");
        x.begin(2, 200);
        x.steps(1, 1, 1, 1, 4, 5);
        due(x.count(7), 1);
        due(x.count(8), 4);
        x.isWord(true, 0, "");
        x.isWord(true, 1, "c");
        x.isWord(true, 2, "bc");
        x.isWord(true, 3, "abc");
        x.isCounterexample("abc");
        Tested.sentence("13, mode 2: a word that is a suffix already is not put in once more");
        Tested z = Tested.machine(2, "1100101", "54", "60", "55", "35", "23", "40", "63")
                .lies("bbabaa", "bbaaba");
        z.begin(2, 300);
        String[] suffixes = {"", "b", "bb", "a", "aa", "baa", "bbaa", "abaa", "babaa", "bbabaa"};
        due(z.learn(1000) != 6 ? 1 : 0, 1);
        for (int k = 0; k < suffixes.length; k++) {
            z.isWord(true, k, suffixes[k]);
        }
        Tested.sentence("13, mode 2: 7 if all of them are suffixes");
        // A lie that is noticed only at the second counterexample: a is a suffix then.
        Tested y = new Tested().lies("a");
        y.begin(2, 200);
        y.steps(1, 1, 1, 2, 1, 1, 4, 5);
        due(y.count(8), 2);
        y.isWord(true, 1, "a");
        due(y.count(11), 0);
        due(y.learn(1000), 7);
        due(y.count(10), 2);
        due(y.count(11), 1);
    }

    private static void deceived() {
        Tested.sentence("13: the step that adds nothing returns 7, and so do all further ones");
        for (int mode = 0; mode <= 2; mode++) {
            Tested x = new Tested().lies("");
            x.begin(mode, 6);
            x.steps(1, 1, 1, 2, 1, 1, 4);
            due(x.count(10), 0);
            due(x.count(11), 0);
            due(x.counterexample(NONE), STATE);
            x.steps(7);
            x.counts(1, 2, 0, 1, mode, 6, 5, 2, 1, 2, 1, 1, 0);
            x.isCounterexample("");
            still(x, x.step(), 7);
            still(x, x.learn(1000), 7);
            Tested.sentence("13: but ask() still asks, while it is possible");
            x.text("bbb");
            due(x.ask(), 0);
            due(x.count(6), 6);
            still(x, x.step(), 7);
            x.text("bbbb");
            still(x, x.ask(), OUT);
            x.text("");
            still(x, x.ask(), 1);
            still(x, x.learn(1), 7);
            Tested.sentence("13: the learner that begins anew has noticed nothing");
            x.begin(mode, 6);
            due(x.count(11), 0);
            due(x.count(10), 0);
            x.steps(1);
        }
    }

    private static void outInSplit() {
        Tested.sentence("13: the counterexample before stays where a step is OUT");
        Tested x = Tested.threeAs();
        x.begin(1, 200);
        due(x.learn(1000), 6);
        due(x.count(10), 2);
        int all = x.count(6);
        boolean met = false;
        for (int budget = 5; budget < all; budget++) {
            x.begin(1, budget);
            due(x.learn(1000), OUT);
            due(x.count(6), budget);
            due(x.count(10) >= 1 ? 1 : 0, 1);
            x.isCounterexample("aaa");
            met |= x.count(10) == 1;
        }
        Tested.due("a counterexample that was OUT", met ? 1 : 0, 1);
    }

    private static void outBeforeFull() {
        Tested.sentence("13: OUT comes before FULL");
        // With one question more the step would be FULL, since its suffix is too long.
        Tested x = Tested.machine(2, "00110111", "65", "44", "34", "02", "63", "74", "70", "15")
                .lies("aaaabbbbba", "babbaab");
        x.begin(1, 92);
        due(x.learn(1000), OUT);
        due(x.count(6), 92);
        still(x, x.step(), OUT);
        x.begin(1, 93);
        due(x.learn(1000), Tested.FULL);
        due(x.count(6), 93);
        still(x, x.step(), Tested.FULL);
    }

    private static void learnBounds() {
        Tested.sentence("14: the greatest number of steps is 1 to 1000");
        Tested x = Tested.threeAs();
        x.step();
        still(x, x.learn(0), BAD);
        still(x, x.learn(-1), BAD);
        still(x, x.learn(1001), BAD);
        still(x, x.learn(MIN), BAD);
        still(x, x.learn(MAX), BAD);
        due(x.learn(1), 1);
        due(x.count(6), 2);
        due(x.learn(1000), 6);
        still(x, x.learn(1001), BAD);
        still(x, x.learn(0), BAD);
    }

    private static void learnCounts() {
        Tested.sentence("14: at most a number of steps; what the last step returned");
        int[] answers = {1, 1, 1, 4, 5, 1, 1, 1, 1, 1, 1, 3, 1, 1, 1, 1, 1, 3, 1, 1, 1, 1, 1, 4, 6};
        for (int most = 1; most <= answers.length; most++) {
            Tested x = Tested.threeAs();
            due(x.learn(most), answers[most - 1]);
            int asked = 0;
            for (int i = 0; i < most; i++) {
                asked += answers[i] == 1 ? 1 : 0;
            }
            due(x.count(6), asked);
        }
        Tested.sentence("14: until one returns something else than 1 to 5");
        Tested x = Tested.threeAs();
        x.begin(0, 5);
        due(x.learn(1000), OUT);
        due(x.count(6), 5);
        x.begin(0, 300);
        due(x.learn(1000), 6);
        x.lies("");
        due(x.learn(1000), 7);
    }

    private static void askBounds() {
        Tested.sentence("15: the word has 0 to 16 letters; a new question, or a known one");
        Tested x = Tested.threeAs().lies("bbbbbbbbbbbbbaaa");
        x.begin(0, 3);
        due(x.ask(), 0);
        x.text("bbbbbbbbbbbbbaaa");
        due(x.ask(), 0);
        x.text("abbbbbbbbbbbbaaa");
        due(x.ask(), 1);
        due(x.count(6), 3);
        still(x, x.ask(), 1);
        x.text("a");
        still(x, x.ask(), OUT);
        Tested.sentence("15: BAD comes before OUT");
        for (int b : new int[] {'a' - 1, 'c', 'd', 0, 127}) {
            x.text("a");
            x.type(b);
            still(x, x.ask(), BAD);
        }
        Tested.sentence("15: BAD also where a question is possible");
        x.begin(0, 4);
        still(x, x.ask(), BAD);
        due(x.count(6), 0);
    }
}
