/**
 * The bounds of the table and of the words: the last value that is allowed, and the first that is
 * FULL. The machines and lies were searched for; the model tells which bound a step has met.
 */
public final class TableEdges {
    private static final int OUT = Tested.OUT, FULL = Tested.FULL, NONE = Tested.NONE;

    public static void main(String[] args) {
        prefixesByClosing();
        prefixesByBeginnings();
        suffixesByEnds();
        suffixesBySeparating();
        suffixesBySplitting();
        lettersByClosing();
        lettersBySeparating();
        lettersByBeginnings();
        lettersBySplitting();
        lettersByEnds();
        longestCounterexample();
        longestQuestion();
        longestWords();
        fullIsLasting();
        Tested.end();
    }

    private static void due(long got, long want) {
        Tested.due(got, want);
    }

    /** The step is FULL for this reason, now and again, and changes nothing but the questions. */
    private static void full(Tested x, String reason, String... asked) {
        Tested.stillButAsked(x, x.step(), FULL, asked);
        x.because("FULL: " + reason);
        Tested.still(x, x.step(), FULL);
        x.because("FULL: " + reason);
        Tested.still(x, x.learn(1000), FULL);
    }

    /** Goes on to where so many questions were asked and the next step asks none. */
    private static void upTo(Tested x, int questions) {
        x.learn(questions);
        for (int i = 0; i < 100 && x.count(6) < questions; i++) {
            x.step();
        }
        due(x.count(6), questions);
    }

    private static int longest(Tested x, boolean suffix) {
        int most = 0;
        int words = x.count(suffix ? 8 : 7);
        for (int k = 0; k < words; k++) {
            most = Math.max(most, x.word(suffix, k, NONE));
        }
        return most;
    }

    /** The letters that the longest extension and the longest suffix have together. */
    private static void letters(Tested x, int want) {
        Tested.due("the most letters", longest(x, false) + 1 + longest(x, true), want);
    }

    private static void prefixesByClosing() {
        Tested.sentence("13, step 2: the table has at most 40 prefixes");
        Tested x = Tested.machine(2, "01111111", "36", "55", "34", "20", "21", "47", "56", "51")
                .lies("bababbab", "bababaab", "bababaaab", "babbbabb");
        x.begin(0, 286);
        upTo(x, 279);
        due(x.count(7), 39);
        x.steps(2);
        due(x.count(7), 40);
        due(x.word(false, 39, NONE), 8);
        due(x.word(false, 40, NONE), Tested.BAD);
        x.steps(1, 1, 1, 1, 1, 1, 1);
        full(x, "prefixes, 2");
        due(x.count(7), 40);
    }

    private static void prefixesByBeginnings() {
        Tested.sentence("13, mode 0: 40 prefixes after what it adds");
        Tested x = Tested.machine(2, "11001010", "32", "53", "12", "63", "57", "43", "04", "76")
                .lies("baaaaaa", "abbaaaaa", "abaaaaaa", "aaaaaaaa");
        x.begin(0, 300);
        upTo(x, 295);
        x.steps(4);
        due(x.count(7), 36);
        int used = x.count(10);
        x.steps(5);
        due(x.count(7), 40);
        due(x.count(10), used + 1);
        Tested.sentence("13, mode 0: 41 prefixes would be too many, and none of them is added");
        Tested y = Tested.machine(2, "11011000", "50", "60", "06", "46", "14", "72", "22", "37")
                .lies("aaabbaaaa", "aabaaaa", "baaaa", "aaaabaaaa");
        y.begin(0, 300);
        upTo(y, 295);
        y.steps(4);
        due(y.count(7), 36);
        full(y, "prefixes, 5 in mode 0");
        due(y.count(7), 36);
    }

    private static void suffixesByEnds() {
        Tested.sentence("13, mode 2: 16 suffixes after what it adds");
        Tested x = Tested.machine(3, "11010111", "121", "622", "676", "570", "220", "770", "303", "060")
                .lies("aaccbac", "acccc");
        x.begin(2, 300);
        upTo(x, 149);
        x.steps(4, 5);
        due(x.count(8), 16);
        due(x.word(true, 15, NONE) > 0 ? 1 : 0, 1);
        due(x.word(true, 16, NONE), Tested.BAD);
        due(x.cell(0, NONE, 15) == Tested.BAD ? 1 : 0, 0);
        due(x.cell(0, NONE, 16), Tested.BAD);
        due(x.learn(1000), 6);
        due(x.count(8), 16);
        Tested.sentence("13, mode 2: 17 suffixes would be too many, and none of them is added");
        Tested y = Tested.machine(2, "1100101", "54", "60", "55", "35", "23", "40", "63")
                .lies("aaaba", "aababbbabbbbbab", "bbabaa", "bbaaba");
        y.begin(2, 254);
        upTo(y, 254);
        y.steps(4);
        due(y.count(8), 14);
        letters(y, 13);
        full(y, "suffixes, 5 in mode 2");
        due(y.count(8), 14);
    }

    /** A 17th cannot come up here: NOTES.md tells why. */
    private static void suffixesBySeparating() {
        Tested.sentence("13, step 3: the 16th suffix is allowed");
        Tested x = Tested.machine(2, "110110", "13", "45", "01", "40", "42", "33")
                .lies("abaabbb", "aabaaaabab", "babbbbbab", "abbabbabba");
        x.begin(0, 300);
        goOnTo(x, 15);
        boolean separated = false;
        for (int i = 0; i < 100 && x.count(8) < 16; i++) {
            separated = x.step() == 3;
        }
        Tested.due("the 16th suffix came by step 3", separated ? 1 : 0, 1);
        sixteen(x);
    }

    private static void suffixesBySplitting() {
        Tested.sentence("13, mode 1: the 16th suffix is allowed");
        Tested x = Tested.machine(2, "00001100", "15", "14", "00", "71", "33", "40", "23", "61")
                .lies("bbaa", "babaaaaba", "aaabaabba", "baaaaabba");
        x.begin(1, 300);
        upTo(x, 278);
        x.steps(4);
        due(x.count(8), 15);
        x.steps(5);
        sixteen(x);
    }

    /** Goes on, some steps at a time, while there are fewer suffixes. */
    private static void goOnTo(Tested x, int suffixes) {
        for (int i = 0; i < 100 && x.count(8) < suffixes; i++) {
            x.learn(4);
        }
        due(x.count(8), suffixes);
    }

    private static void sixteen(Tested x) {
        due(x.count(8), 16);
        due(x.word(true, 15, NONE) > 0 ? 1 : 0, 1);
        due(x.word(true, 16, NONE), Tested.BAD);
        due(x.cell(0, NONE, 15) == Tested.BAD ? 1 : 0, 0);
        due(x.cell(0, NONE, 16), Tested.BAD);
        x.steps(1);
    }

    private static void lettersByClosing() {
        Tested.sentence("13, step 2: an extension and a suffix have at most 16 letters together");
        for (int mode = 0; mode <= 2; mode++) {
            Tested x = mode == 0 ? Tested.cycle(6, 0).lies(Tested.as(7))
                    : mode == 1 ? Tested.cycle(8, 0).lies(Tested.as(11))
                    : Tested.cycle(4, 0).lies(Tested.as(6));
            x.begin(mode, 17);
            upTo(x, 16);
            letters(x, 15);
            x.steps(2);
            letters(x, 16);
            x.steps(1);
            full(x, "letters, 2");
            letters(x, 16);
        }
    }

    private static void lettersBySeparating() {
        Tested.sentence("13, step 3: 16 letters are allowed");
        Tested x = Tested.cycle(8, 1);
        x.begin(0, 300);
        boolean met = false;
        for (int i = 0; i < 60; i++) {
            int before = longest(x, true);
            met |= x.step() == 3 && longest(x, true) > before && longest(x, false) + 1 + longest(x, true) == 16;
            if (met) break;
        }
        Tested.due("16 letters", met ? 1 : 0, 1);
        due(x.learn(1000), 6);
        Tested.sentence("13, step 3: 17 letters are not");
        Tested y = Tested.cycle(7, 0).lies("aaa");
        y.begin(0, 17);
        upTo(y, 17);
        letters(y, 16);
        full(y, "letters, 3");
        letters(y, 16);
    }

    private static void lettersByBeginnings() {
        Tested.sentence("13, mode 0: 16 letters are allowed");
        Tested x = Tested.cycle(8, 0).lies(Tested.as(9));
        x.begin(0, 300);
        upTo(x, 16);
        letters(x, 15);
        x.steps(4, 5);
        letters(x, 16);
        Tested.sentence("13, mode 0: 17 letters are not");
        Tested y = Tested.cycle(7, 0).lies(Tested.as(11));
        y.begin(0, 14);
        upTo(y, 14);
        y.steps(4);
        due(y.difference(NONE), 11);
        due(longest(y, true), 5);
        full(y, "letters, 5 in mode 0");
        due(y.count(7), 8);
    }

    private static void lettersBySplitting() {
        Tested.sentence("13, mode 1: 16 letters are allowed");
        Tested x = Tested.machine(2, "11111110", "24", "61", "75", "15", "14", "21", "31", "25")
                .lies("baababaa", "baababaaa");
        x.begin(1, 300);
        upTo(x, 97);
        x.steps(4);
        letters(x, 15);
        x.steps(5);
        letters(x, 16);
        Tested.sentence("13, mode 1: 17 letters are not; the question that was asked remains asked");
        Tested y = Tested.machine(2, "00110111", "65", "44", "34", "02", "63", "74", "70", "15")
                .lies("aaaabbbbba", "babbaab");
        y.begin(1, 300);
        upTo(y, 92);
        y.steps(4);
        due(y.difference(NONE), 8);
        letters(y, 14);
        full(y, "letters, 5 in mode 1", "bbbbbbba");
        due(y.count(6), 93);
        letters(y, 14);
    }

    private static void lettersByEnds() {
        Tested.sentence("13, mode 2: 16 letters are allowed");
        Tested x = Tested.cycle(5, 0).lies(Tested.as(6));
        x.begin(2, 300);
        upTo(x, 16);
        letters(x, 15);
        x.steps(4, 5);
        letters(x, 16);
        Tested.sentence("13, mode 2: 17 letters are not");
        Tested y = Tested.cycle(5, 0).lies(Tested.as(7));
        y.begin(2, 16);
        upTo(y, 16);
        y.steps(4);
        due(longest(y, false), 9);
        due(y.difference(NONE), 7);
        full(y, "letters, 5 in mode 2");
        due(y.count(8), 6);
    }

    private static void longestCounterexample() {
        Tested.sentence("13: a counterexample of 16 letters is used");
        Tested x = Tested.cycle(8, 0).lies(Tested.as(11), Tested.as(12), Tested.as(16));
        x.begin(1, 17);
        upTo(x, 17);
        x.steps(4);
        due(x.difference(NONE), 16);
        due(x.difference(15), 0);
        due(x.difference(16), NONE);
        x.steps(7);
        x.isCounterexample(Tested.as(16));
        Tested.sentence("13: one of 17 letters is FULL, whether or not a question is possible");
        for (int budget : new int[] {80, 81, 300}) {
            Tested y = Tested.machine(2, "01111101", "03", "60", "51", "43", "73", "25", "64", "53")
                    .lies("baaaabaaaaba");
            y.begin(1, budget);
            upTo(y, 80);
            y.steps(4);
            String word = "baaaabaaaaabaaaba";
            due(y.difference(NONE), 17);
            for (int i = 0; i < 17; i++) {
                due(y.difference(i), word.charAt(i) - 'a');
            }
            due(y.difference(17), NONE);
            int used = y.count(10);
            int before = y.counterexample(NONE);
            full(y, "the counterexample is too long");
            due(y.count(6), 80);
            due(y.count(10), used);
            due(y.counterexample(NONE), before);
        }
    }

    /** The counterexample is aabbbaaba, and question(3) has 11 letters before the last 6. */
    private static Tested longQuestion(int budget) {
        Tested x = Tested.machine(2, "00100000", "37", "23", "06", "53", "26", "34", "31", "01")
                .lies("bbabbaaba", "bbabbaaaba");
        x.begin(1, budget);
        upTo(x, 135);
        x.steps(4);
        due(x.difference(NONE), 9);
        return x;
    }

    /** The next step asks first the counterexample, aaabaaaaa, and then a word of 16 letters. */
    private static Tested sixteenLetters(int budget) {
        Tested x = Tested.machine(2, "11011111", "13", "43", "45", "16", "76", "02", "12", "25")
                .lies("bbbaabaaa", "bababba", "baabaabba", "bbbbaaaaa");
        x.begin(1, budget);
        upTo(x, 160);
        x.steps(4);
        due(x.difference(NONE), 9);
        return x;
    }

    /** The next step asks the counterexample, which has 16 letters and was not asked. */
    private static Tested sixteenLetterExample(int budget) {
        Tested x = Tested.machine(2, "10111110", "60", "61", "54", "37", "63", "26", "65", "01")
                .lies("ababbbbbabbb", "ababbbbbbbb", "baaabbaa", "ba");
        x.begin(1, budget);
        upTo(x, 81);
        x.steps(4);
        due(x.difference(NONE), 16);
        return x;
    }

    private static void longestQuestion() {
        Tested.sentence("13: a question of 16 letters is asked");
        String longest = "bbbaabaaaabaaaaa";
        Tested x = sixteenLetters(162);
        x.steps(5);
        due(x.count(6), 162);
        x.text(longest);
        due(x.ask() >= 0 ? 1 : 0, 1);
        due(x.count(6), 162);
        Tested.sentence("13: it is OUT if it is not possible, and the one before it remains asked");
        Tested v = sixteenLetters(161);
        Tested.stillButAsked(v, v.step(), OUT, "aaabaaaaa");
        due(v.count(6), 161);
        v.text(longest);
        Tested.still(v, v.ask(), OUT);
        Tested.sentence("13: a counterexample of 16 letters is asked, or OUT");
        Tested u = sixteenLetterExample(82);
        full(u, "letters, 5 in mode 1", "ababbbbbbbababbb");
        due(u.count(6), 82);
        Tested t = sixteenLetterExample(81);
        Tested.still(t, t.step(), OUT);
        due(t.count(6), 81);
        Tested.sentence("13: one of 17 letters is FULL, and the questions before it remain asked");
        Tested y = longQuestion(300);
        int state = y.hypothesis(y.hypothesis(y.hypothesis(0, 0), 0), 1);
        int representative = y.hypothesis(state, 4);
        y.isWord(false, representative, "bbabbaaabab");
        full(y, "a question is too long", "aabbbaaba");
        due(y.count(6), 136);
        Tested.sentence("13: also where no other question is possible");
        Tested z = longQuestion(136);
        full(z, "a question is too long", "aabbbaaba");
        due(z.count(6), 136);
        Tested.sentence("13: OUT if a question before it is not possible");
        Tested w = longQuestion(135);
        Tested.still(w, w.step(), OUT);
        due(w.count(6), 135);
    }

    private static void longestWords() {
        Tested.sentence("13: words of 16 letters are asked by the table");
        Tested x = Tested.cycle(4, 0).lies(Tested.as(6), Tested.as(16));
        x.begin(2, 300);
        due(x.learn(1000) == FULL ? 1 : 0, 1);
        letters(x, 16);
        int p = x.count(7) - 1;
        due(x.word(false, p, NONE), 9);
        int s = x.count(8) - 1;
        due(x.word(true, s, NONE), 6);
        // The word of 16 letters is a lie: the machine accepts it.
        due(x.cell(p, 0, s), 0);
        x.text(Tested.as(16));
        due(x.accepts(), 1);
        Tested.still(x, x.ask(), 0);
    }

    private static void fullIsLasting() {
        Tested.sentence("13: a learner that is FULL can be saved, restored and begun anew");
        Tested x = Tested.cycle(4, 0).lies(Tested.as(6));
        x.begin(2, 300);
        due(x.learn(1000), FULL);
        due(x.save(0), 17);
        x.begin(0, 300);
        due(x.learn(1000) == FULL ? 0 : 1, 1);
        due(x.restore(0), 17);
        Tested.still(x, x.step(), FULL);
        x.text(Tested.as(16));
        due(x.ask() >= 0 ? 1 : 0, 1);
        Tested.still(x, x.step(), FULL);
        x.lie();
        x.steps(1);
    }
}
