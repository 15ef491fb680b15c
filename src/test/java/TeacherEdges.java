/** The boundary cases of the teacher and the text: promises 1 to 11, each at both sides. */
public final class TeacherEdges {
    private static final int BAD = Tested.BAD, STATE = Tested.STATE, OUT = Tested.OUT;
    private static final int FULL = Tested.FULL, NONE = Tested.NONE;
    private static final int MIN = Tested.MIN, MAX = Tested.MAX;

    private static final String SIXTEEN = "abbbbbbbbbbbbbba";

    public static void main(String[] args) {
        newObject();
        resetBounds();
        resetForgets();
        setMoveBounds();
        setFinalBounds();
        setFinalTwice();
        lieCount();
        lieWords();
        lieTakenOut();
        stateBounds();
        stateDistance();
        distinguishBounds();
        distinguishOrder();
        leastStates();
        accepts();
        letterBytes();
        typeBounds();
        typeFull();
        clearText();
        Tested.end();
    }

    private static void due(long got, long want) {
        Tested.due(got, want);
    }

    private static void still(Tested x, long got, long want) {
        Tested.still(x, got, want);
    }

    /** A learner under way, with lies, a text, both slots and a counterexample. */
    private static Tested busy() {
        Tested x = Tested.threeAs().lies("bb", "abab");
        x.begin(1, 90);
        x.learn(5);
        x.save(0);
        x.learn(7);
        x.save(1);
        x.text("aba");
        x.learn(2);
        return x;
    }

    private static void newObject() {
        Tested.sentence("1: a new object");
        Tested x = new Tested();
        x.counts(1, 2, 0, 0, 0, 200, 0, 1, 1, 0, 0, 0, 0);
        due(x.state(0, 0), 0);
        due(x.state(0, 1), 0);
        due(x.state(0, 2), BAD);
        due(x.state(0, 3), 0);
        due(x.state(1, 0), BAD);
        x.isWord(false, 0, "");
        x.isWord(true, 0, "");
        due(x.word(false, 1, NONE), BAD);
        due(x.word(true, 1, NONE), BAD);
        still(x, x.hypothesis(0, 0), STATE);
        still(x, x.counterexample(NONE), STATE);
        still(x, x.restore(0), STATE);
        still(x, x.restore(1), STATE);
        due(x.clearText(), 0);
    }

    private static void resetBounds() {
        Tested.sentence("2: 1 to 8 states and 1 to 3 letters");
        Tested x = busy();
        still(x, x.reset(0, 1), BAD);
        still(x, x.reset(9, 3), BAD);
        still(x, x.reset(1, 0), BAD);
        still(x, x.reset(8, 4), BAD);
        still(x, x.reset(-1, 2), BAD);
        still(x, x.reset(2, -1), BAD);
        still(x, x.reset(MIN, 2), BAD);
        still(x, x.reset(MAX, 2), BAD);
        still(x, x.reset(2, MIN), BAD);
        still(x, x.reset(2, MAX), BAD);
        due(x.reset(1, 1), 1);
        due(x.count(0), 1);
        due(x.count(1), 1);
        due(x.state(0, 0), 0);
        due(x.state(0, 1), BAD);
        due(x.state(1, 0), BAD);
        due(x.reset(8, 3), 8);
        due(x.count(0), 8);
        due(x.count(1), 3);
        due(x.state(7, 2), 0);
        due(x.state(8, 2), BAD);
        due(x.reset(8, 1), 8);
        due(x.reset(1, 3), 1);
    }

    private static void resetForgets() {
        Tested.sentence("2: a new machine without lies, a learner that begins with its mode and budget");
        Tested x = new Tested();
        x.reset(8, 3);
        for (int s = 0; s < 8; s++) {
            for (int a = 0; a < 3; a++) {
                x.setMove(s, a, 7);
            }
            x.setFinal(s, true);
        }
        x.lies("", "abc", "ccc", "b");
        x.begin(2, 299);
        x.learn(12);
        x.save(1);
        int asked = x.count(6);
        x.text("c");
        due(x.reset(1, 1), 1);
        x.counts(1, 1, 0, 0, 2, 299, 0, 1, 1, 0, 0, 0, 1);
        due(x.reset(8, 3), 8);
        x.counts(8, 3, 0, 0, 2, 299, 0, 1, 1, 0, 0, 0, 1);
        for (int s = 0; s < 8; s++) {
            for (int what = 0; what <= 3; what++) {
                due(x.state(s, what), 0);
            }
        }
        due(x.counterexample(NONE), STATE);
        due(x.hypothesis(0, 0), STATE);
        for (String word : new String[] {"", "abc", "ccc", "b"}) {
            x.text(word);
            due(x.ask(), 0);
        }
        Tested.sentence("2: what save() saved stays");
        due(x.restore(0), STATE);
        due(x.restore(1), asked);
        due(x.count(2), 8);
        due(x.count(3), 4);
    }

    private static void setMoveBounds() {
        Tested.sentence("3: the state, the letter and the next state exist");
        for (int letters = 1; letters <= 3; letters++) {
            Tested x = new Tested();
            x.reset(8, letters);
            due(x.setMove(0, 0, 7), 0);
            due(x.setMove(7, letters - 1, 7), 0);
            due(x.setMove(7, letters - 1, 0), 7);
            due(x.state(7, letters - 1), 0);
            x.learn(4);
            still(x, x.setMove(8, 0, 0), BAD);
            still(x, x.setMove(-1, 0, 0), BAD);
            still(x, x.setMove(0, letters, 0), BAD);
            still(x, x.setMove(0, -1, 0), BAD);
            still(x, x.setMove(0, 0, 8), BAD);
            still(x, x.setMove(0, 0, -1), BAD);
            still(x, x.setMove(MIN, 0, 0), BAD);
            still(x, x.setMove(0, MAX, 0), BAD);
            still(x, x.setMove(0, 0, MAX), BAD);
        }
        Tested one = new Tested();
        due(one.setMove(0, 1, 0), 0);
        still(one, one.setMove(1, 0, 0), BAD);
        still(one, one.setMove(0, 0, 1), BAD);
        Tested.sentence("3: the learner begins anew");
        Tested x = busy();
        due(x.setMove(3, 1, 3), 3);
        x.counts(4, 2, 1, 2, 1, 90, 0, 1, 1, 0, 0, 0, 3);
        due(x.counterexample(NONE), STATE);
    }

    private static void setFinalBounds() {
        Tested.sentence("4: the state exists");
        Tested x = new Tested();
        x.reset(8, 1);
        due(x.setFinal(7, true), 1);
        due(x.setFinal(0, true), 2);
        x.step();
        for (boolean on : new boolean[] {false, true}) {
            still(x, x.setFinal(8, on), BAD);
            still(x, x.setFinal(-1, on), BAD);
            still(x, x.setFinal(MIN, on), BAD);
            still(x, x.setFinal(MAX, on), BAD);
        }
        for (int s = 1; s < 7; s++) {
            due(x.setFinal(s, true), 2 + s);
        }
        for (int s = 0; s < 8; s++) {
            due(x.setFinal(s, false), 7 - s);
        }
    }

    private static void setFinalTwice() {
        Tested.sentence("4: STATE if it is final already, or is not");
        Tested x = busy();
        still(x, x.setFinal(3, true), STATE);
        still(x, x.setFinal(0, false), STATE);
        due(x.setFinal(3, false), 0);
        x.counts(4, 2, 0, 2, 1, 90, 0, 1, 1, 0, 0, 0, 3);
        x.step();
        still(x, x.setFinal(3, false), STATE);
        due(x.setFinal(0, true), 1);
        due(x.count(6), 0);
        still(x, x.setFinal(0, true), STATE);
    }

    private static void lieCount() {
        Tested.sentence("5: up to 4 lies");
        Tested x = new Tested();
        String[] words = {"", "a", "ab", SIXTEEN};
        for (int n = 0; n < 4; n++) {
            x.text(words[n]);
            due(x.lie(), n + 1);
        }
        x.text("b");
        x.learn(6);
        still(x, x.lie(), FULL);
        due(x.count(3), 4);
        due(x.ask(), 0);
        for (String word : words) {
            x.text(word);
            due(x.ask(), 1);
        }
        Tested.sentence("5: BAD comes before FULL");
        x.text("c");
        still(x, x.lie(), BAD);
        Tested.sentence("5: with 4 lies one can be taken out, and then another put in");
        x.text("ab");
        due(x.lie(), 3);
        x.text("b");
        due(x.lie(), 4);
        x.text("ab");
        still(x, x.lie(), FULL);
    }

    private static void lieWords() {
        Tested.sentence("5: a lie is a word of 0 to 16 letters");
        Tested x = new Tested();
        due(x.lie(), 1);
        due(x.ask(), 1);
        due(x.accepts(), 0);
        x.text(SIXTEEN);
        due(x.lie(), 2);
        due(x.ask(), 1);
        x.text("abbbbbbbbbbbbbbb");
        due(x.ask(), 0);
        x.text("bbbbbbbbbbbbbbba");
        due(x.ask(), 0);
        x.text("abbbbbbbbbbbbbb");
        due(x.ask(), 0);
        Tested.sentence("5: the answer is 0 where the machine accepts");
        Tested y = new Tested();
        y.setFinal(0, true);
        y.lies("", SIXTEEN);
        due(y.ask(), 0);
        y.text(SIXTEEN);
        due(y.ask(), 0);
        y.text("a");
        due(y.ask(), 1);
        Tested.sentence("5: BAD if the text is no word");
        for (int b : new int[] {'a' - 1, 'c', 'A', 0, 127}) {
            Tested z = new Tested();
            z.type('a');
            z.type(b);
            z.step();
            still(z, z.lie(), BAD);
        }
    }

    private static void lieTakenOut() {
        Tested.sentence("5: taken out of the lies; the learner begins anew; the text stays");
        Tested x = new Tested().lies("a", "b", "ab");
        x.text("a");
        x.learn(3);
        due(x.lie(), 2);
        x.counts(1, 2, 0, 2, 0, 200, 0, 1, 1, 0, 0, 0, 1);
        due(x.ask(), 0);
        due(x.lie(), 3);
        due(x.count(6), 0);
        due(x.count(12), 1);
        for (String word : new String[] {"a", "b", "ab"}) {
            x.text(word);
            due(x.ask(), 1);
        }
        for (int n = 3; n > 0; n--) {
            x.text(new String[] {"a", "b", "ab"}[n - 1]);
            due(x.lie(), n - 1);
            due(x.ask(), 0);
        }
    }

    private static void stateBounds() {
        Tested.sentence("6: the state and the property exist");
        for (int letters = 1; letters <= 3; letters++) {
            Tested x = new Tested();
            x.reset(8, letters);
            x.setMove(7, letters - 1, 7);
            x.setFinal(7, true);
            due(x.state(7, letters - 1), 7);
            for (int what = letters; what < 3; what++) {
                still(x, x.state(7, what), BAD);
            }
            due(x.state(7, 3), 1);
            due(x.state(6, 3), 0);
            due(x.state(7, 4), NONE);
            due(x.state(0, 4), 0);
            still(x, x.state(7, 5), BAD);
            still(x, x.state(7, -1), BAD);
            still(x, x.state(8, 3), BAD);
            still(x, x.state(-1, 3), BAD);
            still(x, x.state(MAX, 0), BAD);
            still(x, x.state(0, MAX), BAD);
            still(x, x.state(MIN, MIN), BAD);
        }
    }

    private static void stateDistance() {
        Tested.sentence("6: the length of the least word that leads to it, NONE if none does");
        Tested x = Tested.cycle(8, 0);
        for (int s = 0; s < 8; s++) {
            due(x.state(s, 4), s);
        }
        x.setMove(6, 0, 0);
        due(x.state(6, 4), 6);
        due(x.state(7, 4), NONE);
        Tested y = Tested.machine(3, "0000", "123", "000", "333", "000");
        due(y.state(0, 4), 0);
        due(y.state(1, 4), 1);
        due(y.state(2, 4), 1);
        due(y.state(3, 4), 1);
    }

    private static void distinguishBounds() {
        Tested.sentence("7: the states exist and i is at least NONE");
        // The states 0 and 1 part only behind six letters, which is the most for eight states.
        Tested x = Tested.machine(1, "00000001", "1", "2", "3", "4", "5", "6", "7", "7");
        due(x.distinguish(0, 1, NONE), 6);
        due(x.distinguish(1, 0, NONE), 6);
        due(x.distinguish(0, 1, 5), 0);
        due(x.distinguish(0, 1, 6), NONE);
        due(x.distinguish(0, 1, MAX), NONE);
        due(x.distinguish(6, 7, NONE), 0);
        due(x.distinguish(6, 7, 0), NONE);
        due(x.distinguish(7, 7, NONE), NONE);
        due(x.distinguish(7, 7, 0), NONE);
        still(x, x.distinguish(8, 0, NONE), BAD);
        still(x, x.distinguish(0, 8, NONE), BAD);
        still(x, x.distinguish(-1, 0, NONE), BAD);
        still(x, x.distinguish(0, -1, NONE), BAD);
        still(x, x.distinguish(0, 1, -2), BAD);
        still(x, x.distinguish(0, 1, MIN), BAD);
        still(x, x.distinguish(MIN, MAX, 0), BAD);
        Tested.sentence("7: BAD comes before NONE");
        still(x, x.distinguish(7, 7, -2), BAD);
        still(x, x.distinguish(8, 8, 99), BAD);
        Tested.sentence("7: NONE if there is no such word");
        Tested y = Tested.machine(2, "0000", "11", "00", "33", "22");
        due(y.distinguish(0, 2, NONE), NONE);
        due(y.distinguish(0, 2, 0), NONE);
    }

    private static void distinguishOrder() {
        Tested.sentence("7: words are compared by their lengths first");
        // From 0, aa and c reach the final state, which 4 never does.
        Tested x = Tested.machine(3, "00010", "143", "344", "444", "444", "444");
        due(x.distinguish(0, 4, NONE), 1);
        due(x.distinguish(0, 4, 0), 2);
        Tested.sentence("7: words of equal lengths are compared by their letters");
        // ac, ba, bb and ca do: ac is the least.
        Tested y = Tested.machine(3, "000010", "123", "554", "445", "455", "555", "555");
        due(y.distinguish(0, 5, NONE), 2);
        due(y.distinguish(0, 5, 0), 0);
        due(y.distinguish(0, 5, 1), 2);
        due(y.distinguish(0, 5, 2), NONE);
        Tested.sentence("7: the empty word is the least");
        due(y.distinguish(4, 5, NONE), 0);
        due(y.distinguish(4, 5, 0), NONE);
    }

    private static void leastStates() {
        Tested.sentence("8: from 1 state to all 8");
        due(new Tested().leastStates(), 1);
        due(Tested.cycle(8, 7).leastStates(), 8);
        due(Tested.machine(1, "00000001", "1", "2", "3", "4", "5", "6", "7", "7").leastStates(), 8);
        Tested.sentence("8: states that are not reached, or equal, are not needed");
        due(Tested.machine(1, "00000001", "1", "2", "3", "4", "5", "6", "0", "7").leastStates(), 1);
        due(Tested.machine(1, "11111111", "1", "2", "3", "4", "5", "6", "7", "0").leastStates(), 1);
        due(Tested.machine(1, "01010101", "1", "2", "3", "4", "5", "6", "7", "0").leastStates(), 2);
        due(Tested.machine(2, "0110", "12", "30", "30", "33").leastStates(), 3);
        // State 1, which is not reached, is equal to state 2, which is.
        due(Tested.machine(1, "011", "2", "0", "0").leastStates(), 2);
    }

    private static void accepts() {
        Tested.sentence("9: the word has 0 to 16 letters");
        Tested x = Tested.threeAs().lies("", "baaa");
        x.begin(0, 0);
        still(x, x.accepts(), 0);
        x.text("bbbbbbbbbbbbbaaa");
        still(x, x.accepts(), 1);
        x.text("bbbbbbbbbbbbbbaa");
        still(x, x.accepts(), 0);
        x.text("baaa");
        still(x, x.accepts(), 1);
        x.setFinal(0, true);
        x.text("");
        due(x.accepts(), 1);
        Tested.sentence("9: the learner learns nothing by that");
        due(x.count(6), 0);
        due(x.ask(), OUT);
    }

    private static void letterBytes() {
        Tested.sentence("9: the bytes 'a', 'b' and 'c' are the letters 0 to 2");
        for (int letters = 1; letters <= 3; letters++) {
            Tested x = new Tested();
            x.reset(4, letters);
            for (int a = 0; a < letters; a++) {
                x.setMove(0, a, a + 1);
            }
            x.setFinal(letters, true);
            for (int a = 0; a < letters; a++) {
                x.clearText();
                x.type('a' + a);
                due(x.accepts(), a == letters - 1 ? 1 : 0);
            }
            x.learn(7);
            for (int b : new int[] {'a' - 1, 'a' + letters, 'A', 0, 1, 2, 127}) {
                x.clearText();
                x.type(b);
                still(x, x.accepts(), BAD);
            }
            x.text("aaaaaaaaaaaaaaa");
            x.type('a' + letters);
            still(x, x.accepts(), BAD);
        }
    }

    private static void typeBounds() {
        Tested.sentence("10: the byte is 0 to 127");
        Tested x = busy();
        x.clearText();
        due(x.type(0), 1);
        due(x.type(127), 2);
        still(x, x.type(-1), BAD);
        still(x, x.type(128), BAD);
        still(x, x.type(MIN), BAD);
        still(x, x.type(MAX), BAD);
        due(x.count(12), 2);
    }

    private static void typeFull() {
        Tested.sentence("10: FULL if the text has 16 bytes");
        Tested x = new Tested();
        for (int n = 1; n <= 16; n++) {
            due(x.type('b'), n);
        }
        still(x, x.type('a'), FULL);
        due(x.accepts(), 0);
        due(x.count(12), 16);
        Tested.sentence("10: BAD comes before FULL");
        still(x, x.type(128), BAD);
        still(x, x.type(-1), BAD);
        x.clearText();
        due(x.type('a'), 1);
    }

    private static void clearText() {
        Tested.sentence("11: the length that it had, 0 to 16");
        Tested x = busy();
        due(x.clearText(), 3);
        still(x, x.clearText(), 0);
        due(x.count(12), 0);
        x.text(SIXTEEN);
        due(x.clearText(), 16);
        due(x.count(12), 0);
        due(x.type('b'), 1);
        due(x.clearText(), 1);
    }
}
