import java.util.ArrayDeque;
import java.util.ArrayList;
import java.util.Arrays;
import java.util.HashMap;
import java.util.HashSet;
import java.util.List;
import java.util.Map;
import java.util.Set;
import java.util.TreeSet;

/**
 * The document once more, as plainly as possible: words are Strings, every row is read anew
 * from all questions, and a step works on a copy that is dropped if it fails. The random runs
 * compare TableLearner with it.
 */
final class Model {
    static final int BAD = -2, STATE = -3, OUT = -4, FULL = -5, NONE = -1;

    /** A step that fails, with what it returns and why; the reason is for counting only. */
    private static final class Failed extends RuntimeException {
        private static final long serialVersionUID = 1;
        final int code;
        final String why;

        Failed(int code, String why) {
            super(why, null, false, false);
            this.code = code;
            this.why = why;
        }
    }

    private static final class Dfa {
        int[][] moves;
        boolean[] finals;

        Dfa(int states, int letters) {
            moves = new int[states][letters];
            finals = new boolean[states];
        }

        int run(int from, String word) {
            int state = from;
            for (char c : word.toCharArray()) {
                state = moves[state][c - 'a'];
            }
            return state;
        }

        Dfa copy() {
            Dfa other = new Dfa(finals.length, moves[0].length);
            for (int s = 0; s < finals.length; s++) {
                other.moves[s] = moves[s].clone();
            }
            other.finals = finals.clone();
            return other;
        }
    }

    private static final class All {
        Dfa machine = new Dfa(1, 2);
        Set<String> lies = new TreeSet<>();
        int mode = 0, budget = 200;
        Map<String, Integer> asked = new HashMap<>();
        List<String> prefixes = new ArrayList<>(List.of(""));
        List<String> suffixes = new ArrayList<>(List.of(""));
        Dfa hypothesis = null;
        List<Integer> representatives = new ArrayList<>();
        boolean formed = false;
        String example = null;
        int used = 0;
        boolean lied = false;

        All copy() {
            All other = new All();
            other.machine = machine.copy();
            other.lies = new TreeSet<>(lies);
            other.mode = mode;
            other.budget = budget;
            other.asked = new HashMap<>(asked);
            other.prefixes = new ArrayList<>(prefixes);
            other.suffixes = new ArrayList<>(suffixes);
            other.hypothesis = hypothesis == null ? null : hypothesis.copy();
            other.representatives = new ArrayList<>(representatives);
            other.formed = formed;
            other.example = example;
            other.used = used;
            other.lied = lied;
            return other;
        }
    }

    private All all = new All();
    private final All[] saved = new All[2];
    private String text = "";

    /** Why the last step answered as it did. */
    String why = "";
    private String phase = "";

    String text() {
        return text;
    }

    private int states() {
        return all.machine.finals.length;
    }

    private int letters() {
        return all.machine.moves[0].length;
    }

    private void anew() {
        All fresh = new All();
        fresh.machine = all.machine;
        fresh.lies = all.lies;
        fresh.mode = all.mode;
        fresh.budget = all.budget;
        all = fresh;
    }

    private boolean isState(int s) {
        return 0 <= s && s < states();
    }

    private boolean isLetter(int a) {
        return 0 <= a && a < letters();
    }

    private boolean textIsWord() {
        for (char c : text.toCharArray()) {
            if (!isLetter(c - 'a')) {
                return false;
            }
        }
        return true;
    }

    private int finals() {
        int n = 0;
        for (boolean f : all.machine.finals) {
            n += f ? 1 : 0;
        }
        return n;
    }

    int reset(int states, int letters) {
        if (states < 1 || states > 8 || letters < 1 || letters > 3) return BAD;
        all.machine = new Dfa(states, letters);
        all.lies = new TreeSet<>();
        anew();
        return states;
    }

    int setMove(int state, int letter, int to) {
        if (!isState(state) || !isLetter(letter) || !isState(to)) return BAD;
        int before = all.machine.moves[state][letter];
        all.machine.moves[state][letter] = to;
        anew();
        return before;
    }

    int setFinal(int state, boolean on) {
        if (!isState(state)) return BAD;
        if (all.machine.finals[state] == on) return STATE;
        all.machine.finals[state] = on;
        anew();
        return finals();
    }

    int lie() {
        if (!textIsWord()) return BAD;
        if (!all.lies.contains(text) && all.lies.size() == 4) return FULL;
        if (!all.lies.remove(text)) all.lies.add(text);
        anew();
        return all.lies.size();
    }

    int state(int state, int what) {
        if (!isState(state) || what < 0 || what > 4 || what < 3 && !isLetter(what)) return BAD;
        if (what < 3) return all.machine.moves[state][what];
        if (what == 3) return all.machine.finals[state] ? 1 : 0;
        Integer d = distances().get(state);
        return d == null ? NONE : d;
    }

    private Map<Integer, Integer> distances() {
        Map<Integer, Integer> found = new HashMap<>();
        ArrayDeque<Integer> todo = new ArrayDeque<>(List.of(0));
        found.put(0, 0);
        while (!todo.isEmpty()) {
            int s = todo.remove();
            for (int t : all.machine.moves[s]) {
                if (!found.containsKey(t)) {
                    found.put(t, found.get(s) + 1);
                    todo.add(t);
                }
            }
        }
        return found;
    }

    /** Tries all words in ascending order; eight states differ within seven letters or never. */
    private String leastWord(int p, int q) {
        List<String> level = List.of("");
        for (int length = 0; length <= 7; length++) {
            List<String> longer = new ArrayList<>();
            for (String w : level) {
                Dfa m = all.machine;
                if (m.finals[m.run(p, w)] != m.finals[m.run(q, w)]) return w;
                for (int a = 0; a < letters(); a++) {
                    longer.add(w + (char) ('a' + a));
                }
            }
            level = longer;
        }
        return null;
    }

    private static int pick(String word, int i) {
        if (word == null) return NONE;
        if (i == NONE) return word.length();
        return i < word.length() ? word.charAt(i) - 'a' : NONE;
    }

    int distinguish(int p, int q, int i) {
        if (!isState(p) || !isState(q) || i < NONE) return BAD;
        return pick(leastWord(p, q), i);
    }

    /** Splits the reachable states into blocks until no block splits any more. */
    int leastStates() {
        Set<Integer> reachable = distances().keySet();
        Map<Integer, String> block = new HashMap<>();
        for (int s : reachable) {
            block.put(s, all.machine.finals[s] ? "1" : "0");
        }
        for (int round = 0; round < 8; round++) {
            Map<Integer, String> finer = new HashMap<>();
            Map<String, String> names = new HashMap<>();
            for (int s : reachable) {
                StringBuilder signature = new StringBuilder(block.get(s));
                for (int t : all.machine.moves[s]) {
                    signature.append(',').append(block.get(t));
                }
                names.putIfAbsent(signature.toString(), "" + names.size());
                finer.put(s, names.get(signature.toString()));
            }
            block = finer;
        }
        return new HashSet<>(block.values()).size();
    }

    private boolean inMachine(String word) {
        return all.machine.finals[all.machine.run(0, word)];
    }

    private boolean inHypothesis(String word) {
        return all.hypothesis.finals[all.hypothesis.run(0, word)];
    }

    int accepts() {
        if (!textIsWord()) return BAD;
        return inMachine(text) ? 1 : 0;
    }

    int type(int letter) {
        if (letter < 0 || letter > 127) return BAD;
        if (text.length() == 16) return FULL;
        text += (char) letter;
        return text.length();
    }

    int clearText() {
        int n = text.length();
        text = "";
        return n;
    }

    int begin(int mode, int budget) {
        if (mode < 0 || mode > 2 || budget < 0 || budget > 300) return BAD;
        int before = all.mode;
        all.mode = mode;
        all.budget = budget;
        anew();
        return before;
    }

    private int question(String word) {
        if (word.length() > 16) throw new Failed(FULL, "FULL: a question is too long");
        Integer known = all.asked.get(word);
        if (known != null) return known;
        if (all.asked.size() >= all.budget) throw new Failed(OUT, "OUT: " + phase);
        int answer = inMachine(word) != all.lies.contains(word) ? 1 : 0;
        all.asked.put(word, answer);
        return answer;
    }

    private List<String> extensions() {
        List<String> found = new ArrayList<>();
        for (String p : all.prefixes) {
            for (int a = 0; a < letters(); a++) {
                found.add(p + (char) ('a' + a));
            }
        }
        return found;
    }

    private List<Integer> row(String p) {
        List<Integer> found = new ArrayList<>();
        for (String s : all.suffixes) {
            found.add(all.asked.getOrDefault(p + s, NONE));
        }
        return found;
    }

    private List<List<Integer>> prefixRows() {
        List<List<Integer>> found = new ArrayList<>();
        for (String p : all.prefixes) {
            found.add(row(p));
        }
        return found;
    }

    private void checkRoom(String what) {
        if (all.prefixes.size() > 40) throw new Failed(FULL, "FULL: prefixes, " + what);
        if (all.suffixes.size() > 16) throw new Failed(FULL, "FULL: suffixes, " + what);
        for (String e : extensions()) {
            for (String s : all.suffixes) {
                if (e.length() + s.length() > 16) throw new Failed(FULL, "FULL: letters, " + what);
            }
        }
    }

    int step() {
        All before = all.copy();
        try {
            int did = tryStep();
            why = did + (did == 5 || did == 7 ? " in mode " + all.mode : "");
            return did;
        } catch (Failed failed) {
            before.asked = all.asked;
            all = before;
            why = failed.why;
            return failed.code;
        }
    }

    private int tryStep() {
        if (all.lied) return 7;
        phase = "the table";
        List<String> rowWords = new ArrayList<>(all.prefixes);
        rowWords.addAll(extensions());
        for (String r : rowWords) {
            for (String s : all.suffixes) {
                if (!all.asked.containsKey(r + s)) {
                    question(r + s);
                    return 1;
                }
            }
        }
        List<List<Integer>> rows = prefixRows();
        for (String e : extensions()) {
            if (!rows.contains(row(e))) {
                all.prefixes.add(e);
                all.formed = false;
                checkRoom("2");
                return 2;
            }
        }
        String separator = separator(rows);
        if (separator != null) {
            all.suffixes.add(separator);
            all.formed = false;
            checkRoom("3");
            return 3;
        }
        if (!all.formed) {
            form(rows);
            return 4;
        }
        String example = leastDifference();
        if (example == null) return 6;
        return correct(example);
    }

    private String separator(List<List<Integer>> rows) {
        for (int p = 0; p < rows.size(); p++) {
            for (int q = p + 1; q < rows.size(); q++) {
                if (!rows.get(p).equals(rows.get(q))) continue;
                for (int a = 0; a < letters(); a++) {
                    String letter = "" + (char) ('a' + a);
                    List<Integer> one = row(all.prefixes.get(p) + letter);
                    List<Integer> two = row(all.prefixes.get(q) + letter);
                    for (int s = 0; s < one.size(); s++) {
                        if (!one.get(s).equals(two.get(s))) return letter + all.suffixes.get(s);
                    }
                }
            }
        }
        return null;
    }

    private void form(List<List<Integer>> rows) {
        List<List<Integer>> different = new ArrayList<>();
        all.representatives = new ArrayList<>();
        for (int p = 0; p < rows.size(); p++) {
            if (!different.contains(rows.get(p))) {
                different.add(rows.get(p));
                all.representatives.add(p);
            }
        }
        all.hypothesis = new Dfa(different.size(), letters());
        for (int s = 0; s < different.size(); s++) {
            all.hypothesis.finals[s] = different.get(s).get(0) == 1;
            for (int a = 0; a < letters(); a++) {
                String extension = all.prefixes.get(all.representatives.get(s)) + (char) ('a' + a);
                all.hypothesis.moves[s][a] = different.indexOf(row(extension));
            }
        }
        all.formed = true;
    }

    private String leastDifference() {
        Set<List<Integer>> met = new HashSet<>();
        List<String> level = new ArrayList<>(List.of(""));
        while (!level.isEmpty()) {
            List<String> longer = new ArrayList<>();
            for (String w : level) {
                if (inMachine(w) != inHypothesis(w)) return w;
                if (!met.add(Arrays.asList(all.machine.run(0, w), all.hypothesis.run(0, w)))) continue;
                for (int a = 0; a < letters(); a++) {
                    longer.add(w + (char) ('a' + a));
                }
            }
            level = longer;
        }
        return null;
    }

    private int correct(String example) {
        int n = example.length();
        if (n > 16) throw new Failed(FULL, "FULL: the counterexample is too long");
        int size = all.prefixes.size() + all.suffixes.size();
        if (all.mode == 1) {
            String suffix = example.substring(n - splitLength(example));
            if (!all.suffixes.contains(suffix)) all.suffixes.add(suffix);
        }
        for (int i = 0; i <= n && all.mode != 1; i++) {
            List<String> list = all.mode == 0 ? all.prefixes : all.suffixes;
            String part = all.mode == 0 ? example.substring(0, i) : example.substring(n - i);
            if (!list.contains(part)) list.add(part);
        }
        checkRoom("5 in mode " + all.mode);
        all.example = example;
        all.used++;
        if (all.prefixes.size() + all.suffixes.size() == size) {
            all.lied = true;
            return 7;
        }
        all.formed = false;
        return 5;
    }

    private int splitLength(String example) {
        int n = example.length();
        phase = "question(0)";
        int first = question(splitWord(example, 0));
        phase = "a question behind question(0)";
        int low = 0;
        int high = n;
        while (high - low > 1) {
            int i = (low + high) / 2;
            if (question(splitWord(example, i)) == first) low = i; else high = i;
        }
        return n - high;
    }

    private String splitWord(String example, int i) {
        int state = all.hypothesis.run(0, example.substring(0, i));
        return all.prefixes.get(all.representatives.get(state)) + example.substring(i);
    }

    int learn(int most) {
        if (most < 1 || most > 1000) return BAD;
        int did = 1;
        for (int i = 0; i < most; i++) {
            did = step();
            if (did < 1 || did > 5) return did;
        }
        return did;
    }

    int ask() {
        if (!textIsWord()) return BAD;
        try {
            return question(text);
        } catch (Failed failed) {
            return failed.code;
        }
    }

    int word(boolean suffix, int k, int i) {
        List<String> list = suffix ? all.suffixes : all.prefixes;
        if (k < 0 || k >= list.size() || i < NONE) return BAD;
        return pick(list.get(k), i);
    }

    int cell(int prefix, int letter, int suffix) {
        if (prefix < 0 || prefix >= all.prefixes.size()) return BAD;
        if (suffix < 0 || suffix >= all.suffixes.size()) return BAD;
        if (letter != NONE && !isLetter(letter)) return BAD;
        String middle = letter == NONE ? "" : "" + (char) ('a' + letter);
        String asked = all.prefixes.get(prefix) + middle + all.suffixes.get(suffix);
        return all.asked.getOrDefault(asked, NONE);
    }

    int hypothesis(int state, int what) {
        if (what < 0 || what > 4 || what < 3 && !isLetter(what)) return BAD;
        if (all.hypothesis == null) return STATE;
        if (state < 0 || state >= all.hypothesis.finals.length) return NONE;
        if (what == 4) return all.representatives.get(state);
        if (what == 3) return all.hypothesis.finals[state] ? 1 : 0;
        return all.hypothesis.moves[state][what];
    }

    int guess() {
        if (!textIsWord()) return BAD;
        if (all.hypothesis == null) return STATE;
        return inHypothesis(text) ? 1 : 0;
    }

    int difference(int i) {
        if (i < NONE) return BAD;
        if (all.hypothesis == null) return STATE;
        return pick(leastDifference(), i);
    }

    int counterexample(int i) {
        if (i < NONE) return BAD;
        if (all.example == null) return STATE;
        return pick(all.example, i);
    }

    int save(int slot) {
        if (slot < 0 || slot > 1) return BAD;
        saved[slot] = all.copy();
        return all.asked.size();
    }

    int restore(int slot) {
        if (slot < 0 || slot > 1) return BAD;
        if (saved[slot] == null) return STATE;
        all = saved[slot].copy();
        return all.asked.size();
    }

    int count(int what) {
        int[] numbers = {
            states(), letters(), finals(), all.lies.size(), all.mode, all.budget,
            all.asked.size(), all.prefixes.size(), all.suffixes.size(),
            all.hypothesis == null ? 0 : all.hypothesis.finals.length,
            all.used, all.lied ? 1 : 0, text.length()
        };
        return what < 0 || what >= numbers.length ? BAD : numbers[what];
    }

    long digest() {
        List<Integer> numbers = new ArrayList<>();
        for (int what = 0; what <= 12; what++) numbers.add(count(what));
        for (int s = 0; s < states(); s++) {
            for (int a = 0; a < letters(); a++) numbers.add(state(s, a));
            numbers.add(state(s, 3));
        }
        numbers.add(leastStates());
        for (String p : all.prefixes) {
            numbers.add(p.length());
            for (char c : p.toCharArray()) numbers.add(c - 'a');
            numbers.addAll(row(p));
        }
        for (String e : extensions()) numbers.addAll(row(e));
        for (String s : all.suffixes) {
            numbers.add(s.length());
            for (char c : s.toCharArray()) numbers.add(c - 'a');
        }
        for (int s = 0; s < count(9); s++) {
            for (int a = 0; a < letters(); a++) numbers.add(hypothesis(s, a));
            numbers.add(hypothesis(s, 3));
        }
        if (all.example != null) {
            for (char c : all.example.toCharArray()) numbers.add(c - 'a');
        }
        for (char c : text.toCharArray()) numbers.add((int) c);
        long h = 59;
        for (int v : numbers) h = 31 * h + v;
        return h;
    }
}
