import java.util.List;
import java.util.Map;
import java.util.Random;
import java.util.TreeMap;

/** Random runs of calls, the same ones each time, on TableLearner and on the Model. */
public final class RandomRuns {
    private static final int RUNS = Integer.getInteger("runs", 3000);

    /** An object is used for at most 512 calls; a part of a run may make some 15 beyond these. */
    private static final int CALLS = 496;

    /** What the runs must have met, so that they cannot become empty unnoticed. */
    private static final List<String> DUE = List.of(
            "1", "2", "3", "4", "6",
            "5 in mode 0", "5 in mode 1", "5 in mode 2",
            "7 in mode 0", "7 in mode 1", "7 in mode 2",
            "OUT: the table", "OUT: a question behind question(0)",
            "FULL: letters, 2", "FULL: letters, 3",
            "FULL: letters, 5 in mode 0", "FULL: letters, 5 in mode 2");

    private static final Map<String, Integer> MET = new TreeMap<>();
    private static int wrong = 0;

    private final Random random;
    private final int number;
    private final TableLearner learner = new TableLearner();
    private final Model model = new Model();
    private int calls = 0;
    private boolean failed = false;

    private RandomRuns(int number) {
        this.number = number;
        random = new Random(number * 7919L + 17);
    }

    public static void main(String[] args) {
        for (int number = 0; number < RUNS; number++) {
            new RandomRuns(number).run();
        }
        for (String due : DUE) {
            if (!MET.containsKey(due)) {
                wrong++;
                System.out.println("no run met: " + due);
            }
        }
        if (Boolean.getBoolean("met")) {
            MET.forEach((what, times) -> System.out.println(times + " times " + what));
        }
        System.out.println(wrong == 0 ? "all answers are as due" : wrong + " answers are not as due");
        if (wrong != 0) System.exit(1);
    }

    private int upTo(int bound) {
        return random.nextInt(bound);
    }

    private void due(String call, long got, long want) {
        calls++;
        if (got != want) {
            failed = true;
            wrong++;
            System.out.println("run " + number + ", call " + calls + ": " + call
                    + " answered " + got + ", due is " + want);
        }
    }

    private boolean goesOn() {
        return calls < CALLS && !failed;
    }

    private void run() {
        boolean nasty = number % 3 == 0;
        while (goesOn()) {
            switch (upTo(nasty ? 8 : 12)) {
                case 0: machine(); break;
                case 1: lies(); break;
                case 2: slots(); break;
                case 3: text(); break;
                case 4: look(); break;
                case 5: wrongCall(); break;
                case 6: begin(); break;
                default: learnOn(); break;
            }
        }
        if (calls > 512) {
            wrong++;
            System.out.println("run " + number + " made " + calls + " calls");
        }
    }

    private void machine() {
        int states = 1 + upTo(8);
        int letters = 1 + upTo(3);
        int kind = upTo(4);
        due("reset", learner.reset(states, letters), model.reset(states, letters));
        for (int s = 0; s < states && goesOn(); s++) {
            for (int a = 0; a < letters && goesOn(); a++) {
                int to = kind == 0 ? (a == 0 ? (s + 1) % states : 0)
                        : kind == 1 ? (s + 1 + a) % states
                        : kind == 2 ? (a == letters - 1 ? Math.min(s + 1, states - 1) : s)
                        : upTo(states);
                setMove(s, a, to);
            }
            if (kind == 3 ? random.nextBoolean() : s == states - 1) {
                setFinal(s, true);
            }
        }
    }

    private void setMove(int s, int a, int to) {
        due("setMove(" + s + ", " + a + ", " + to + ")",
                learner.setMove(s, a, to), model.setMove(s, a, to));
    }

    private void setFinal(int s, boolean on) {
        due("setFinal(" + s + ", " + on + ")", learner.setFinal(s, on), model.setFinal(s, on));
    }

    private void typeWord(int length, int letters) {
        due("clearText()", learner.clearText(), model.clearText());
        for (int i = 0; i < length && goesOn(); i++) {
            int b = 'a' + upTo(letters);
            due("type(" + b + ")", learner.type(b), model.type(b));
        }
    }

    private void lies() {
        if (upTo(2) == 0) return;
        typeWord(upTo(upTo(3) == 0 ? 17 : 5), model.count(1));
        due("lie()", learner.lie(), model.lie());
    }

    private void slots() {
        int slot = upTo(2);
        if (upTo(2) == 0) {
            due("save(" + slot + ")", learner.save(slot), model.save(slot));
        } else {
            due("restore(" + slot + ")", learner.restore(slot), model.restore(slot));
        }
    }

    private void text() {
        typeWord(upTo(18), upTo(4) == 0 ? 3 : model.count(1));
        due("accepts()", learner.accepts(), model.accepts());
        due("guess()", learner.guess(), model.guess());
        due("ask()", learner.ask(), model.ask());
        due("ask()", learner.ask(), model.ask());
    }

    private void begin() {
        int mode = upTo(3);
        int budget = upTo(3) == 0 ? upTo(40) : 40 + upTo(261);
        due("begin(" + mode + ", " + budget + ")",
                learner.begin(mode, budget), model.begin(mode, budget));
    }

    private void learnOn() {
        int steps = 1 + upTo(20);
        for (int i = 0; i < steps && goesOn(); i++) {
            due("step()", learner.step(), model.step());
            MET.merge(model.why, 1, Integer::sum);
        }
        if (upTo(2) == 0) {
            int most = 1 + upTo(upTo(2) == 0 ? 30 : 1000);
            due("learn(" + most + ")", learner.learn(most), model.learn(most));
            MET.merge(model.why, 1, Integer::sum);
        }
        due("step()", learner.step(), model.step());
        MET.merge(model.why, 1, Integer::sum);
        due("digest()", learner.digest(), model.digest());
    }

    private void look() {
        int p = upTo(9), q = upTo(9), i = upTo(8) - 1;
        due("state", learner.state(p, upToLast(4)), model.state(p, last));
        due("distinguish", learner.distinguish(p, q, i), model.distinguish(p, q, i));
        due("leastStates()", learner.leastStates(), model.leastStates());
        due("hypothesis", learner.hypothesis(p, upToLast(4)), model.hypothesis(p, last));
        due("difference", learner.difference(i), model.difference(i));
        due("difference(-1)", learner.difference(-1), model.difference(-1));
        due("counterexample", learner.counterexample(i), model.counterexample(i));
        due("prefix", learner.word(false, p, i), model.word(false, p, i));
        due("suffix", learner.word(true, upToLast(4), i), model.word(true, last, i));
        due("cell", learner.cell(p, i / 2, upToLast(3)), model.cell(p, i / 2, last));
        due("count", learner.count(upToLast(13)), model.count(last));
        due("digest()", learner.digest(), model.digest());
    }

    private int last;

    private int upToLast(int bound) {
        last = upTo(bound + 1);
        return last;
    }

    private int odd() {
        int[] some = {-3, -2, -1, 0, 1, 2, 3, 4, 5, 7, 8, 9, 12, 13, 16, 39, 40, 127, 128, 300, 301,
            1000, 1001, Integer.MIN_VALUE, Integer.MAX_VALUE, Integer.MAX_VALUE / 3 + 1, 1 << 30};
        return some[upTo(some.length)];
    }

    private void wrongCall() {
        int x = odd(), y = upTo(2) == 0 ? odd() : upTo(3), z = upTo(2) == 0 ? odd() : upTo(3);
        boolean on = random.nextBoolean();
        String given = "(" + x + ", " + y + ", " + z + ", " + on + ")";
        switch (upTo(17)) {
            case 0: due("reset" + given, learner.reset(x, y), model.reset(x, y)); break;
            case 1: due("setMove" + given, learner.setMove(x, y, z), model.setMove(x, y, z)); break;
            case 2: due("setFinal" + given, learner.setFinal(x, on), model.setFinal(x, on)); break;
            case 3: due("state" + given, learner.state(x, y), model.state(x, y)); break;
            case 4: due("state" + given, learner.state(y, x), model.state(y, x)); break;
            case 5: due("distinguish" + given, learner.distinguish(y, z, x), model.distinguish(y, z, x)); break;
            case 6: due("type" + given, learner.type(x), model.type(x)); break;
            case 7: due("begin" + given, learner.begin(y, x), model.begin(y, x)); break;
            case 8: due("learn" + given, learner.learn(x), model.learn(x)); break;
            case 9: due("word" + given, learner.word(on, y, x), model.word(on, y, x)); break;
            case 10: due("cell" + given, learner.cell(x, y, z), model.cell(x, y, z)); break;
            case 11: due("hypothesis" + given, learner.hypothesis(x, y), model.hypothesis(x, y)); break;
            case 12: due("hypothesis" + given, learner.hypothesis(y, x), model.hypothesis(y, x)); break;
            case 13: due("difference" + given, learner.difference(x), model.difference(x)); break;
            case 14: due("counterexample" + given, learner.counterexample(x), model.counterexample(x)); break;
            case 15: due("save" + given, learner.save(x), model.save(x)); break;
            default: due("restore" + given, learner.restore(x), model.restore(x)); break;
        }
        due("digest()", learner.digest(), model.digest());
    }
}
