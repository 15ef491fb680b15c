import java.util.ArrayList;
import java.util.LinkedHashSet;
import java.util.List;
import java.util.Set;
import java.util.function.Consumer;

/**
 * A TableLearner and a Model side by side: each call goes to both, and both must answer the same.
 * The calls are kept, so that an object can be made once more as it was before its last call.
 */
final class Tested {
    static final int BAD = -2, STATE = -3, OUT = -4, FULL = -5, NONE = -1;
    static final int MIN = Integer.MIN_VALUE, MAX = Integer.MAX_VALUE;

    /** The document promises nothing about an object beyond so many calls. */
    static final int MOST_CALLS = 512;

    private static int wrong = 0;
    private static String sentence = "";
    private static String lastCall = "";

    private final TableLearner real = new TableLearner();
    private final Model model = new Model();
    private final List<Consumer<Tested>> calls = new ArrayList<>();
    private final Set<String> told = new LinkedHashSet<>();

    /** Names the sentence of the document that the checks from here on are about. */
    static void sentence(String words) {
        sentence = words;
    }

    static void end() {
        System.out.println(wrong == 0 ? "all answers are as due" : wrong + " answers are not as due");
        if (wrong != 0) System.exit(1);
    }

    private static void complain(String what) {
        wrong++;
        System.out.println(sentence + ": " + what);
    }

    /** What the last call answered, and what is due. */
    static void due(long got, long want) {
        due(lastCall, got, want);
    }

    static void due(String what, long got, long want) {
        if (got != want) {
            complain(what + " answered " + got + ", due is " + want);
        }
    }

    /** The last call of x answered this, and has changed nothing. */
    static void still(Tested x, long got, long want) {
        String call = lastCall;
        due(call, got, want);
        int before = x.calls.size() - 1;
        same(call, x.told, x.again(before), x.again(before + 1));
    }

    /** The last call of x answered this, and has changed nothing but that these words are asked. */
    static void stillButAsked(Tested x, long got, long want, String... words) {
        String call = lastCall;
        due(call, got, want);
        int before = x.calls.size() - 1;
        Tested other = x.again(before);
        String text = other.model.text();
        int asked = other.count(6);
        for (String word : words) {
            other.text(word);
            other.ask();
        }
        other.text(text);
        due("new questions of " + call, other.count(6) - asked, words.length);
        same(call, x.told, other, x.again(before + 1));
    }

    private static void same(String call, Set<String> words, Tested one, Tested other) {
        List<Long> due = new ArrayList<>();
        List<Long> got = new ArrayList<>();
        one.probe(words, due);
        other.probe(words, got);
        if (!due.equals(got)) {
            complain(call + " has changed something: " + got + ", due is " + due);
        }
    }

    private Tested again(int number) {
        Tested other = new Tested();
        for (Consumer<Tested> call : calls.subList(0, number)) {
            call.accept(other);
        }
        return other;
    }

    /** Looks at all that can be seen, then goes on, so that what cannot be seen shows. */
    private void probe(Set<String> words, List<Long> seen) {
        look(seen);
        seen.add((long) step());
        seen.add(digest());
        seen.add((long) learn(3));
        seen.add(digest());
        seen.add((long) begin(0, 300));
        for (String word : words) {
            text(word);
            seen.add((long) ask());
        }
        for (int slot = 0; slot <= 1; slot++) {
            if (restore(slot) >= 0) {
                look(seen);
                seen.add((long) learn(3));
                seen.add(digest());
            }
        }
    }

    private void look(List<Long> seen) {
        seen.add(digest());
        int states = count(9);
        for (int s = 0; s < states; s++) {
            seen.add((long) hypothesis(s, 4));
        }
        seen.add((long) counterexample(NONE));
    }

    /** A machine; the marks tell which states are final, the moves where each one leads. */
    static Tested machine(int letters, String finals, String... moves) {
        Tested x = new Tested();
        x.reset(finals.length(), letters);
        for (int s = 0; s < finals.length(); s++) {
            for (int a = 0; a < letters; a++) {
                x.setMove(s, a, moves[s].charAt(a) - '0');
            }
            if (finals.charAt(s) == '1') {
                x.setFinal(s, true);
            }
        }
        return x;
    }

    /** Accepts the words in which aaa occurs. */
    static Tested threeAs() {
        return machine(2, "0001", "10", "20", "30", "33");
    }

    /** Accepts the words of one letter whose length is last modulo n. */
    static Tested cycle(int n, int last) {
        Tested x = new Tested();
        x.reset(n, 1);
        for (int s = 0; s < n; s++) {
            x.setMove(s, 0, (s + 1) % n);
        }
        x.setFinal(last, true);
        return x;
    }

    static String as(int n) {
        return "a".repeat(n);
    }

    Tested lies(String... words) {
        for (String word : words) {
            text(word);
            lie();
        }
        clearText();
        return this;
    }

    void text(String word) {
        clearText();
        for (char c : word.toCharArray()) {
            type(c);
        }
    }

    void steps(int... answers) {
        for (int answer : answers) {
            due("step() behind question " + count(6), step(), answer);
        }
    }

    void counts(int... numbers) {
        for (int what = 0; what < numbers.length; what++) {
            due(count(what), numbers[what]);
        }
    }

    void isWord(boolean suffix, int k, String word) {
        due(word(suffix, k, NONE), word.length());
        for (int i = 0; i < word.length(); i++) {
            due(word(suffix, k, i), word.charAt(i) - 'a');
        }
        due(word(suffix, k, word.length()), NONE);
    }

    void isCounterexample(String word) {
        due(counterexample(NONE), word.length());
        for (int i = 0; i < word.length(); i++) {
            due(counterexample(i), word.charAt(i) - 'a');
        }
        due(counterexample(word.length()), NONE);
    }

    int callsMade() {
        return calls.size();
    }

    /** The reason that the model has for the last step's answer. */
    void because(String reason) {
        if (!model.why.equals(reason)) {
            complain("the step is " + model.why + ", and should be " + reason);
        }
    }

    private long both(String call, Consumer<Tested> again, long got, long want) {
        calls.add(again);
        lastCall = call;
        if (calls.size() > MOST_CALLS) {
            complain("a test makes more than " + MOST_CALLS + " calls of one object");
        }
        if (got != want) {
            complain(call + " answered " + got + ", due in the model is " + want);
        }
        return got;
    }

    int reset(int states, int letters) {
        return (int) both("reset(" + states + ", " + letters + ")", x -> x.reset(states, letters),
                real.reset(states, letters), model.reset(states, letters));
    }

    int setMove(int state, int letter, int to) {
        return (int) both("setMove(" + state + ", " + letter + ", " + to + ")",
                x -> x.setMove(state, letter, to),
                real.setMove(state, letter, to), model.setMove(state, letter, to));
    }

    int setFinal(int state, boolean on) {
        return (int) both("setFinal(" + state + ", " + on + ")", x -> x.setFinal(state, on),
                real.setFinal(state, on), model.setFinal(state, on));
    }

    int lie() {
        if (told.size() < 6) told.add(model.text());
        return (int) both("lie()", Tested::lie, real.lie(), model.lie());
    }

    int state(int state, int what) {
        return (int) both("state(" + state + ", " + what + ")", x -> x.state(state, what),
                real.state(state, what), model.state(state, what));
    }

    int distinguish(int p, int q, int i) {
        return (int) both("distinguish(" + p + ", " + q + ", " + i + ")", x -> x.distinguish(p, q, i),
                real.distinguish(p, q, i), model.distinguish(p, q, i));
    }

    int leastStates() {
        return (int) both("leastStates()", Tested::leastStates, real.leastStates(), model.leastStates());
    }

    int accepts() {
        return (int) both("accepts()", Tested::accepts, real.accepts(), model.accepts());
    }

    int type(int letter) {
        return (int) both("type(" + letter + ")", x -> x.type(letter), real.type(letter), model.type(letter));
    }

    int clearText() {
        return (int) both("clearText()", Tested::clearText, real.clearText(), model.clearText());
    }

    int begin(int mode, int budget) {
        return (int) both("begin(" + mode + ", " + budget + ")", x -> x.begin(mode, budget),
                real.begin(mode, budget), model.begin(mode, budget));
    }

    int step() {
        return (int) both("step()", Tested::step, real.step(), model.step());
    }

    int learn(int most) {
        return (int) both("learn(" + most + ")", x -> x.learn(most), real.learn(most), model.learn(most));
    }

    int ask() {
        return (int) both("ask()", Tested::ask, real.ask(), model.ask());
    }

    int word(boolean suffix, int k, int i) {
        return (int) both("word(" + suffix + ", " + k + ", " + i + ")", x -> x.word(suffix, k, i),
                real.word(suffix, k, i), model.word(suffix, k, i));
    }

    int cell(int prefix, int letter, int suffix) {
        return (int) both("cell(" + prefix + ", " + letter + ", " + suffix + ")",
                x -> x.cell(prefix, letter, suffix),
                real.cell(prefix, letter, suffix), model.cell(prefix, letter, suffix));
    }

    int hypothesis(int state, int what) {
        return (int) both("hypothesis(" + state + ", " + what + ")", x -> x.hypothesis(state, what),
                real.hypothesis(state, what), model.hypothesis(state, what));
    }

    int guess() {
        return (int) both("guess()", Tested::guess, real.guess(), model.guess());
    }

    int difference(int i) {
        return (int) both("difference(" + i + ")", x -> x.difference(i), real.difference(i), model.difference(i));
    }

    int counterexample(int i) {
        return (int) both("counterexample(" + i + ")", x -> x.counterexample(i),
                real.counterexample(i), model.counterexample(i));
    }

    int save(int slot) {
        return (int) both("save(" + slot + ")", x -> x.save(slot), real.save(slot), model.save(slot));
    }

    int restore(int slot) {
        return (int) both("restore(" + slot + ")", x -> x.restore(slot), real.restore(slot), model.restore(slot));
    }

    int count(int what) {
        return (int) both("count(" + what + ")", x -> x.count(what), real.count(what), model.count(what));
    }

    long digest() {
        return both("digest()", Tested::digest, real.digest(), model.digest());
    }
}
