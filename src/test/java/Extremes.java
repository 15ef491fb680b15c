/** Machines and lies that were searched for, which fill the table as far as it goes. */
public final class Extremes {
    private static int wrong = 0;
    private static int mostPrefixes = 0;
    private static int mostSuffixes = 0;

    public static void main(String[] args) {
        run("1111011", new int[][] {{6, 1}, {0, 5}, {1, 3}, {3, 3}, {5, 0}, {1, 5}, {4, 2}},
                "bbbbaaa", "bbaaaaaa", "bbaaaabaaa", "bbabaaa");
        run("11101111", new int[][] {{7, 7}, {7, 4}, {7, 2}, {2, 3}, {6, 5}, {7, 3}, {6, 1}, {6, 7}},
                "bb", "aabbbbabbbbb", "baaabbbaabaabab", "bbbaabb");
        run("0100010", new int[][] {{3, 6}, {2, 5}, {2, 0}, {0, 2}, {4, 4}, {6, 5}, {5, 4}},
                "bbbbbaba", "baaabaaaa", "abbaaba");
        run("1111110", new int[][] {{3, 6}, {4, 5}, {1, 3}, {6, 5}, {1, 2}, {3, 0}, {4, 2}},
                "baaaaa", "bbbaaba", "bbabbabb");
        run("0010111", new int[][] {{5, 6}, {2, 1}, {4, 0}, {4, 4}, {3, 5}, {0, 3}, {1, 3}},
                "aaaabab", "baaabab", "abbaaabab", "aabaab");
        run("010000", new int[][] {{3, 1}, {4, 4}, {0, 1}, {3, 4}, {1, 5}, {4, 2}},
                "babbbaa", "bbbbaab", "abbababbabb", "babbbabbbb");
        due("a table with 39 prefixes", mostPrefixes >= 39 ? 1 : 0, 1);
        due("a table with 16 suffixes", mostSuffixes, 16);
        System.out.println(wrong == 0 ? "all answers are as due" : wrong + " answers are not as due");
        if (wrong != 0) System.exit(1);
    }

    private static void due(String call, long got, long want) {
        if (got != want) {
            wrong++;
            System.out.println(call + " answered " + got + ", due is " + want);
        }
    }

    private static void run(String finals, int[][] moves, String... lies) {
        for (int mode = 0; mode <= 2; mode++) {
            TableLearner x = new TableLearner();
            Model model = new Model();
            set(x, model, finals, moves, lies);
            due("begin", x.begin(mode, 300), model.begin(mode, 300));
            int did = 1;
            int half = 200;
            for (int i = 0; i < 420 && did >= 1 && did <= 5; i++) {
                if (i == half) {
                    // A table that was saved and restored goes on as well.
                    due("save", x.save(1), model.save(1));
                    due("begin", x.begin(0, 9), model.begin(0, 9));
                    due("learn", x.learn(20), model.learn(20));
                    due("restore", x.restore(1), model.restore(1));
                }
                did = x.step();
                due("step " + i + " in mode " + mode, did, model.step());
            }
            due("digest in mode " + mode, x.digest(), model.digest());
            mostPrefixes = Math.max(mostPrefixes, x.count(7));
            mostSuffixes = Math.max(mostSuffixes, x.count(8));
        }
    }

    private static void set(TableLearner x, Model model, String finals, int[][] moves, String... lies) {
        due("reset", x.reset(moves.length, 2), model.reset(moves.length, 2));
        for (int s = 0; s < moves.length; s++) {
            for (int a = 0; a < 2; a++) {
                due("setMove", x.setMove(s, a, moves[s][a]), model.setMove(s, a, moves[s][a]));
            }
            if (finals.charAt(s) == '1') {
                due("setFinal", x.setFinal(s, true), model.setFinal(s, true));
            }
        }
        for (String lie : lies) {
            due("clearText", x.clearText(), model.clearText());
            for (char c : lie.toCharArray()) {
                due("type", x.type(c), model.type(c));
            }
            due("lie", x.lie(), model.lie());
        }
    }
}
