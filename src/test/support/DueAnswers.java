import java.util.Arrays;

// What the tests by promise and by boundary share: objects in a known state, and answers held
// against those that are due.
abstract class DueAnswers {
    static final int REFUSED = PackratGrammar.REFUSED;
    static final int FAILS = PackratGrammar.FAILS;
    static final int STUCK = PackratGrammar.STUCK;

    // A program that is wrong everywhere would else fill the report for minutes.
    private static final int MOST_TOLD = 200;

    private static int wrong = 0;
    private static String subject = "";

    static void about(String sentence) {
        subject = sentence;
    }

    static void end() {
        System.out.println(wrong == 0 ? "all answers are as due" : wrong + " answers are not as due");
        if (wrong != 0) {
            System.exit(1);
        }
    }

    static void due(String what, boolean got, boolean want) {
        due(what, got ? 1 : 0, want ? 1 : 0);
    }

    static void due(String what, int got, int want) {
        if (got != want) {
            tell(what + " answered " + got + ", due is " + want);
        }
    }

    static void due(String what, String got, String want) {
        if (!got.equals(want)) {
            tell(what + " is " + got + ", due is " + want);
        }
    }

    static void dueTree(PackratGrammar x, String want) {
        due("the tree", treeOf(x), want);
    }

    static void dueText(PackratGrammar x, String want) {
        due("the text", textOf(x), want);
    }

    // Each node as rule:start-end@depth.
    static String treeOf(PackratGrammar x) {
        StringBuilder tree = new StringBuilder();
        int count = x.nodes();
        for (int number = 0; number < count; number++) {
            tree.append(number == 0 ? "" : " ").append(x.node(number, 0)).append(':')
                .append(x.node(number, 1)).append('-').append(x.node(number, 2))
                .append('@').append(x.node(number, 3));
        }
        return tree.toString();
    }

    static String textOf(PackratGrammar x) {
        StringBuilder text = new StringBuilder();
        int letter = x.letter(0);
        for (int place = 1; letter != REFUSED && place < 20; place++) {
            text.append((char) letter);
            letter = x.letter(place);
        }
        return text.toString();
    }

    static PackratGrammar withText(String text) {
        PackratGrammar x = new PackratGrammar();
        for (int place = 0; place < text.length(); place++) {
            x.insert(place, text.charAt(place));
        }
        return x;
    }

    static void putAll(PackratGrammar x, int... list) {
        for (int token : list) {
            x.put(token, 0, 0, 0);
        }
    }

    static boolean defined(PackratGrammar x, int rule, int... list) {
        putAll(x, list);
        return x.define(rule);
    }

    static String shown(int[] list) {
        return Arrays.toString(list);
    }

    private static void tell(String message) {
        wrong++;
        System.out.println(subject + ": " + message);
        if (wrong == MOST_TOLD) {
            end();
        }
    }
}
