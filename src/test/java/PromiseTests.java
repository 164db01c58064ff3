// One method for each promise of the document, with ordinary inputs, the edges and wrong inputs.
public final class PromiseTests extends DueAnswers {
    private static final int[] FAR = {Integer.MIN_VALUE, -100, Integer.MAX_VALUE};

    public static void main(String[] args) {
        newObject();
        put();
        define();
        insert();
        erase();
        change();
        letter();
        parseLeaves();
        parseCombinations();
        parseRepetitions();
        parseLookAhead();
        parseRules();
        parseRefusals();
        nodes();
        nodeFields();
        treeParts();
        treeRepetitions();
        orderAndLimits();
        end();
    }

    private static void newObject() {
        about("promise 1");
        PackratGrammar x = new PackratGrammar();
        due("nodes", x.nodes(), 0);
        due("node(0, 0)", x.node(0, 0), REFUSED);
        due("letter(0)", x.letter(0), REFUSED);
        due("erase(0)", x.erase(0), REFUSED);
        due("put of nothing", x.put(0, 0, 0, 0), 0);
        for (int rule = 0; rule < 4; rule++) {
            due("parse(" + rule + ", 0)", x.parse(rule, 0), FAILS);
        }
        due("parse(0, 1)", x.parse(0, 1), REFUSED);
        due("insert is the first letter", x.insert(0, 97), 1);
    }

    private static void put() {
        about("promise 2");
        for (int token = -3; token < 130; token++) {
            boolean isToken = token >= 97 && token <= 122 || token >= 1 && token <= 3
                || token >= 10 && token <= 16 || token >= 20 && token <= 23;
            for (int position = 0; position < 4; position++) {
                PackratGrammar x = new PackratGrammar();
                int got = x.put(position == 0 ? token : 0, position == 1 ? token : 0,
                    position == 2 ? token : 0, position == 3 ? token : 0);
                due("put of " + token, got, token == 0 ? 0 : isToken ? 1 : REFUSED);
                due("pending after " + token, x.put(0, 0, 0, 0), isToken ? 1 : 0);
            }
        }
        for (int token : FAR) {
            due("put of " + token, new PackratGrammar().put(97, token, 0, 0), REFUSED);
        }
        putKeepsOrder();
        putRefusedChangesNothing();
        putUpToTwelve();
    }

    private static void putKeepsOrder() {
        PackratGrammar x = withText("abcd");
        due("put(0, 10, 0, 97)", x.put(0, 10, 0, 97), 2);
        due("put(10, 0, 98, 0)", x.put(10, 0, 98, 0), 4);
        due("put(0, 0, 0, 99)", x.put(0, 0, 0, 99), 5);
        due("define", x.define(0), true);
        due("parse", x.parse(0, 0), 3);
    }

    private static void putRefusedChangesNothing() {
        PackratGrammar x = withText("ab");
        x.put(97, 0, 0, 0);
        due("wrong last token", x.put(98, 98, 98, 24), REFUSED);
        due("wrong first token", x.put(4, 98, 0, 0), REFUSED);
        due("pending", x.put(0, 0, 0, 0), 1);
        due("define", x.define(0), true);
        due("parse", x.parse(0, 0), 1);
    }

    private static void putUpToTwelve() {
        PackratGrammar x = withText("aaaaaaaa");
        x.put(10, 97, 10, 97);
        x.put(10, 97, 10, 97);
        due("eleven", x.put(10, 97, 15, 0), 11);
        due("two more are too many", x.put(97, 97, 0, 0), REFUSED);
        due("a wrong token with room", x.put(99, 5, 0, 0), REFUSED);
        due("the twelfth", x.put(0, 97, 0, 0), 12);
        due("a thirteenth", x.put(0, 0, 0, 97), REFUSED);
        due("nothing more", x.put(0, 0, 0, 0), 12);
        due("define", x.define(3), true);
        due("parse", x.parse(3, 0), 5);
        due("parse where it ends too early", x.parse(3, 3), FAILS);
    }

    private static void define() {
        about("promise 3");
        int[][] whole = {{97}, {122}, {1}, {2}, {3, 97, 99}, {3, 99, 97}, {10, 97, 98}, {11, 1, 2},
            {12, 97}, {13, 1}, {14, 2}, {15, 97}, {16, 20}, {20}, {23}, {10, 3, 97, 98, 97},
            {11, 10, 97, 98, 12, 99}, {12, 12, 12, 12, 12, 12, 12, 12, 12, 12, 12, 97},
            {10, 10, 10, 10, 10, 97, 97, 97, 97, 97, 97}, {10, 97, 3, 97, 98}};
        for (int[] list : whole) {
            due("whole " + shown(list), defined(new PackratGrammar(), 1, list), true);
        }
        int[][] broken = {{97, 97}, {3}, {3, 97}, {3, 97, 1}, {3, 1, 97}, {3, 97, 20}, {3, 20, 97},
            {10}, {10, 97}, {11, 97}, {12}, {13}, {14}, {15}, {16}, {10, 97, 98, 99}, {12, 97, 97},
            {97, 12}, {10, 12, 97}, {3, 3, 97, 98}, {10, 3, 97, 98}, {2, 2}, {20, 97}, {12, 12},
            {12, 12, 12, 12, 12, 12, 12, 12, 12, 12, 12, 12}, {3, 97, 98, 99}, {10, 97, 3, 97},
            {11, 10, 97, 98}, {97, 10, 97, 97}};
        for (int[] list : broken) {
            PackratGrammar x = withText("ab");
            defined(x, 1, 98);
            due("broken " + shown(list), defined(x, 1, list), false);
            due("pending after " + shown(list), x.put(0, 0, 0, 0), 0);
            due("the rule stays, at 0", x.parse(1, 0), FAILS);
            due("the rule stays, at 1", x.parse(1, 1), 2);
        }
        defineOfWrongRules();
        defineOfAnEmptyList();
        defineAgain();
    }

    private static void defineOfWrongRules() {
        for (int rule : new int[] {-1, 4, 5, 20, Integer.MIN_VALUE, Integer.MAX_VALUE}) {
            PackratGrammar x = withText("a");
            due("define(" + rule + ")", defined(x, rule, 97), false);
            due("pending", x.put(0, 0, 0, 0), 0);
            due("empty define(" + rule + ")", x.define(rule), false);
            for (int other = 0; other < 4; other++) {
                due("parse(" + other + ", 0)", x.parse(other, 0), FAILS);
            }
        }
    }

    private static void defineOfAnEmptyList() {
        PackratGrammar x = withText("a");
        for (int rule = 0; rule < 4; rule++) {
            defined(x, rule, 97);
        }
        due("empty define(2)", x.define(2), true);
        due("empty define(2) once more", x.define(2), true);
        for (int rule = 0; rule < 4; rule++) {
            due("parse(" + rule + ", 0)", x.parse(rule, 0), rule == 2 ? FAILS : 1);
        }
    }

    private static void defineAgain() {
        PackratGrammar x = withText("abc");
        defined(x, 0, 10, 97, 10, 98, 99);
        due("the long one", x.parse(0, 0), 3);
        defined(x, 0, 98);
        due("the short one", x.parse(0, 0), FAILS);
        due("the short one at 1", x.parse(0, 1), 2);
        defined(x, 3, 12, 1);
        due("rule 3 beside it", x.parse(3, 0), 3);
        due("rule 0 stays", x.parse(0, 1), 2);
    }

    private static void insert() {
        about("promise 4");
        PackratGrammar x = new PackratGrammar();
        due("beyond the end", x.insert(1, 97), REFUSED);
        due("before the start", x.insert(-1, 97), REFUSED);
        due("letter below", x.insert(0, 96), REFUSED);
        due("letter above", x.insert(0, 123), REFUSED);
        due("letter 0", x.insert(0, 0), REFUSED);
        for (int far : FAR) {
            due("far place", x.insert(far, 97), REFUSED);
            due("far letter", x.insert(0, far), REFUSED);
        }
        dueText(x, "");
        due("first letter", x.insert(0, 97), 1);
        due("at the end", x.insert(1, 122), 2);
        due("in the middle", x.insert(1, 109), 3);
        due("at the start", x.insert(0, 98), 4);
        due("beyond the end", x.insert(5, 97), REFUSED);
        dueText(x, "bamz");
        for (int length = 5; length <= 16; length++) {
            due("up to sixteen", x.insert(2, 100), length);
        }
        dueText(x, "baddddddddddddmz");
        for (int place = 0; place <= 17; place++) {
            due("a seventeenth", x.insert(place, 97), REFUSED);
        }
        dueText(x, "baddddddddddddmz");
    }

    private static void erase() {
        about("promise 5");
        PackratGrammar x = withText("abcdefghijklmnop");
        due("at the length", x.erase(16), REFUSED);
        due("before the start", x.erase(-1), REFUSED);
        for (int far : FAR) {
            due("far place", x.erase(far), REFUSED);
        }
        due("last", x.erase(15), 15);
        due("behind the last", x.erase(15), REFUSED);
        due("first", x.erase(0), 14);
        due("middle", x.erase(3), 13);
        dueText(x, "bcdfghijklmno");
        for (int length = 12; length >= 0; length--) {
            due("all", x.erase(0), length);
        }
        due("none left", x.erase(0), REFUSED);
        dueText(x, "");
        due("room again", x.insert(0, 122), 1);
        dueText(x, "z");
    }

    private static void change() {
        about("promise 6");
        PackratGrammar x = withText("abc");
        due("middle", x.change(1, 122), 98);
        due("the new one is the old one", x.change(1, 97), 122);
        due("same letter", x.change(0, 97), 97);
        due("last", x.change(2, 100), 99);
        dueText(x, "aad");
        due("at the length", x.change(3, 97), REFUSED);
        due("before the start", x.change(-1, 97), REFUSED);
        due("letter below", x.change(0, 96), REFUSED);
        due("letter above", x.change(0, 123), REFUSED);
        due("letter 0", x.change(0, 0), REFUSED);
        for (int far : FAR) {
            due("far place", x.change(far, 97), REFUSED);
            due("far letter", x.change(0, far), REFUSED);
        }
        dueText(x, "aad");
        x.erase(2);
        due("erased place", x.change(2, 97), REFUSED);
    }

    private static void letter() {
        about("promise 7");
        PackratGrammar x = withText("azm");
        due("letter(0)", x.letter(0), 97);
        due("letter(1)", x.letter(1), 122);
        due("letter(2)", x.letter(2), 109);
        due("letter(3)", x.letter(3), REFUSED);
        due("letter(-1)", x.letter(-1), REFUSED);
        due("letter(16)", x.letter(16), REFUSED);
        for (int far : FAR) {
            due("far place", x.letter(far), REFUSED);
        }
        x.erase(0);
        due("after erase", x.letter(2), REFUSED);
        due("full text", withText("abcdefghijklmnop").letter(15), 112);
    }

    private static void parseLeaves() {
        about("promise 8");
        dueOutcomes("abz", new int[] {1, FAILS, FAILS, FAILS}, 97);
        dueOutcomes("abz", new int[] {FAILS, FAILS, 3, FAILS}, 122);
        dueOutcomes("abz", new int[] {1, 2, 3, FAILS}, 1);
        dueOutcomes("abz", new int[] {0, 1, 2, 3}, 2);
        dueOutcomes("abcd", new int[] {FAILS, 2, 3, FAILS, FAILS}, 3, 98, 99);
        dueOutcomes("abcd", new int[] {FAILS, 2, FAILS, FAILS, FAILS}, 3, 98, 98);
        dueOutcomes("abcd", new int[] {FAILS, FAILS, FAILS, FAILS, FAILS}, 3, 99, 98);
        dueOutcomes("", new int[] {FAILS}, 1);
        dueOutcomes("", new int[] {0}, 2);
        PackratGrammar full = withText("aaaaaaaaaaaaaaaa");
        defined(full, 0, 12, 1);
        due("sixteen letters", full.parse(0, 0), 16);
        due("the last place", full.parse(0, 16), 16);
    }

    private static void parseCombinations() {
        dueOutcomes("abab", new int[] {2, FAILS, 4, FAILS, FAILS}, 10, 97, 98);
        dueOutcomes("abc", new int[] {1, 2, FAILS, FAILS}, 11, 97, 98);
        // The first alternative holds, even if the second one would reach farther.
        dueOutcomes("ab", new int[] {1, FAILS, FAILS}, 11, 97, 10, 97, 98);
        dueOutcomes("ab", new int[] {FAILS, FAILS, FAILS}, 10, 11, 97, 10, 97, 98, 99);
        dueOutcomes("aab", new int[] {1, 3, FAILS, FAILS}, 11, 10, 97, 98, 97);
        // A failing first part hides a stuck second one, and an ending first choice does too.
        dueOutcomes("ba", new int[] {FAILS, 2, FAILS}, 10, 97, 11, 16, 1, 20);
        dueOutcomes("a", new int[] {1, STUCK}, 11, 97, 20);
        dueOutcomes("a", new int[] {STUCK, FAILS}, 10, 97, 11, 98, 21);
        dueOutcomes("ab", new int[] {1, 1, 2}, 14, 97);
        dueOutcomes("ab", new int[] {2, 1, 2}, 14, 10, 97, 98);
    }

    private static void parseRepetitions() {
        dueOutcomes("aab", new int[] {2, 2, 2, 3}, 12, 97);
        dueOutcomes("aab", new int[] {2, 2, FAILS, FAILS}, 13, 97);
        dueOutcomes("ab", new int[] {0, 1, 2}, 12, 2);
        dueOutcomes("ab", new int[] {0, 1, 2}, 13, 2);
        dueOutcomes("aab", new int[] {2, 2, 2, 3}, 13, 14, 97);
        dueOutcomes("aab", new int[] {2, 2, 2, 3}, 12, 14, 97);
        dueOutcomes("aab", new int[] {2, 2, 2, 3}, 12, 12, 97);
        dueOutcomes("aab", new int[] {2, 2, FAILS, FAILS}, 13, 13, 97);
        dueOutcomes("aab", new int[] {2, 2, 2, 3}, 12, 13, 97);
        // Greedy: nothing is given back for what follows.
        dueOutcomes("aaa", new int[] {FAILS, FAILS, FAILS, FAILS}, 10, 12, 97, 97);
        dueOutcomes("ababa", new int[] {4, 1, 4, 3, 4, 5}, 12, 10, 97, 98);
        dueOutcomes("ababa", new int[] {4, FAILS, 4, FAILS, FAILS, FAILS}, 13, 10, 97, 98);
        // Stuck in a later round makes the whole stuck.
        dueOutcomes("aa", new int[] {STUCK, STUCK, STUCK}, 12, 11, 97, 20);
        dueOutcomes("aa", new int[] {STUCK, STUCK, STUCK}, 13, 11, 97, 20);
        dueOutcomes("aba", new int[] {STUCK, FAILS, STUCK, FAILS}, 13, 10, 97, 11, 98, 21);
        dueOutcomes("abb", new int[] {2, FAILS, FAILS, FAILS}, 13, 10, 97, 11, 98, 21);
    }

    private static void parseLookAhead() {
        dueOutcomes("ab", new int[] {0, FAILS, FAILS}, 15, 97);
        dueOutcomes("ab", new int[] {FAILS, 1, 2}, 16, 97);
        dueOutcomes("ab", new int[] {0, FAILS, FAILS}, 15, 10, 97, 98);
        dueOutcomes("ab", new int[] {0, 1, 2}, 15, 2);
        dueOutcomes("ab", new int[] {FAILS, FAILS, FAILS}, 16, 2);
        dueOutcomes("ab", new int[] {FAILS, FAILS, 2}, 16, 1);
        dueOutcomes("ab", new int[] {0, 1, FAILS}, 16, 16, 1);
        dueOutcomes("aab", new int[] {2, 2, 2, 3}, 12, 10, 16, 98, 1);
        dueOutcomes("a", new int[] {STUCK, STUCK}, 15, 20);
        dueOutcomes("a", new int[] {STUCK, STUCK}, 16, 20);
        dueOutcomes("a", new int[] {0, 1}, 16, 23);
        dueOutcomes("a", new int[] {FAILS, FAILS}, 15, 23);
    }

    private static void parseRules() {
        dueOutcomes("aa", new int[] {STUCK, STUCK, STUCK}, 20);
        dueOutcomes("aa", new int[] {STUCK, STUCK, STUCK}, 14, 20);
        dueOutcomes("aa", new int[] {STUCK, STUCK, STUCK}, 12, 20);
        dueOutcomes("aa", new int[] {STUCK, STUCK, STUCK}, 10, 2, 20);
        dueOutcomes("aa", new int[] {FAILS, FAILS, FAILS}, 10, 97, 20);
        dueOutcomes("aab", new int[] {2, 2, 2, 3}, 14, 10, 97, 20);
        dueOutcomes("aab", new int[] {2, 2, 2, 3}, 11, 10, 97, 20, 2);
        dueOutcomes("aa", new int[] {FAILS, FAILS, FAILS}, 22);
        PackratGrammar x = withText("aab");
        defined(x, 3, 10, 20, 98);
        defined(x, 0, 21);
        defined(x, 1, 22);
        defined(x, 2, 12, 97);
        due("through all rules", x.parse(3, 0), 3);
        defined(x, 2, 11, 97, 23);
        due("a ring that is left at 0", x.parse(3, 0), FAILS);
        due("a ring that is left at 1", x.parse(3, 1), 3);
        due("a ring that is not left", x.parse(3, 2), STUCK);
        due("the ring from another rule", x.parse(1, 2), STUCK);
        x.change(2, 97);
        due("after an edit", x.parse(3, 2), FAILS);
        due("at the end", x.parse(3, 3), STUCK);
    }

    private static void parseRefusals() {
        PackratGrammar x = withText("ab");
        defined(x, 0, 2);
        defined(x, 3, 2);
        due("parse(0, 2)", x.parse(0, 2), 2);
        due("parse(3, 0)", x.parse(3, 0), 0);
        due("parse(4, 0)", x.parse(4, 0), REFUSED);
        due("parse(-1, 0)", x.parse(-1, 0), REFUSED);
        due("parse(0, 3)", x.parse(0, 3), REFUSED);
        due("parse(0, -1)", x.parse(0, -1), REFUSED);
        due("no expression and no place", x.parse(1, 3), REFUSED);
        for (int far : FAR) {
            due("far rule", x.parse(far, 0), REFUSED);
            due("far place", x.parse(0, far), REFUSED);
        }
    }

    private static void nodes() {
        about("promise 9");
        PackratGrammar x = withText("aab");
        defined(x, 0, 11, 10, 97, 20, 98);
        due("before the parse", x.nodes(), 0);
        x.parse(0, 0);
        due("after the parse", x.nodes(), 3);
        x.erase(0);
        x.change(0, 122);
        x.insert(0, 98);
        defined(x, 0, 2);
        x.define(0);
        due("edits and definitions leave it", x.nodes(), 3);
        dueTree(x, "0:0-3@0 0:1-3@1 0:2-3@2");
        due("fails", x.parse(0, 0), FAILS);
        due("a failing parse empties it", x.nodes(), 0);
        keptNodesStopAtThirty();
        stuckParseEmptiesTheTree();
    }

    private static void keptNodesStopAtThirty() {
        PackratGrammar x = withText("aaaaaaaaaaaaaaaa");
        defined(x, 0, 12, 21);
        defined(x, 1, 10, 22, 1);
        defined(x, 2, 2);
        for (int place = 16; place >= 0; place--) {
            x.parse(0, place);
            int all = 1 + 2 * (16 - place);
            due("nodes from " + place, x.nodes(), all < 30 ? all : 30);
        }
        due("the last kept one", x.node(29, 0), 1);
        due("its start", x.node(29, 1), 14);
        due("no node 30", x.node(30, 0), REFUSED);
        // Exactly thirty: the root, fourteen rounds of two and one more rule.
        defined(x, 0, 10, 12, 21, 23);
        defined(x, 3, 2);
        x.parse(0, 2);
        due("thirty in all", x.nodes(), 30);
        due("the thirtieth", x.node(29, 0), 3);
    }

    private static void stuckParseEmptiesTheTree() {
        PackratGrammar x = withText("a");
        defined(x, 0, 97);
        defined(x, 1, 21);
        x.parse(0, 0);
        due("one node", x.nodes(), 1);
        due("stuck", x.parse(1, 0), STUCK);
        due("a stuck parse empties it", x.nodes(), 0);
        due("no node then", x.node(0, 0), REFUSED);
    }

    private static void nodeFields() {
        about("promise 10");
        PackratGrammar x = withText("xab");
        defined(x, 2, 10, 23, 20);
        defined(x, 3, 97);
        defined(x, 0, 14, 23);
        due("parse", x.parse(2, 1), 2);
        dueTree(x, "2:1-2@0 3:1-2@1 0:2-2@1");
        due("node(-1, 0)", x.node(-1, 0), REFUSED);
        due("node(3, 0)", x.node(3, 0), REFUSED);
        due("node(0, 4)", x.node(0, 4), REFUSED);
        due("node(0, -1)", x.node(0, -1), REFUSED);
        for (int far : FAR) {
            due("far number", x.node(far, 0), REFUSED);
            due("far what", x.node(0, far), REFUSED);
        }
        due("a shorter tree", x.parse(0, 2), 2);
        due("hides the older nodes", x.node(1, 0), REFUSED);
    }

    private static void treeParts() {
        about("promise 8, the tree");
        PackratGrammar x = withText("ab");
        defined(x, 1, 97);
        defined(x, 2, 98);
        defined(x, 3, 2);
        dueTreeOf(x, "0:0-2@0 1:0-1@1 2:1-2@1", 10, 21, 22);
        dueTreeOf(x, "0:0-1@0 1:0-1@1", 11, 21, 23);
        dueTreeOf(x, "0:0-0@0 3:0-0@1", 11, 22, 23);
        // What ended inside a part that failed took no part.
        dueTreeOf(x, "0:0-1@0 3:0-0@1 1:0-1@1", 11, 10, 21, 21, 10, 23, 21);
        dueTreeOf(x, "0:0-1@0 1:0-1@1", 14, 21);
        dueTreeOf(x, "0:0-0@0", 14, 22);
        dueTreeOf(x, "0:0-0@0", 14, 10, 21, 21);
        dueTreeOf(x, "0:0-1@0 1:0-1@1", 10, 15, 21, 21);
        dueTreeOf(x, "0:0-0@0", 15, 21);
        dueTreeOf(x, "0:0-1@0 1:0-1@1", 10, 16, 22, 21);
        dueTreeOf(x, "0:0-0@0", 16, 16, 21);
        dueTreeOf(x, "0:0-2@0 3:0-0@1 1:0-1@1 3:1-1@1 2:1-2@1", 10, 10, 23, 21, 10, 23, 22);
        dueTreeOf(x, "0:0-1@0", 3, 97, 98);
        defined(x, 3, 10, 21, 22);
        defined(x, 2, 11, 97, 98);
        dueTreeOf(x, "0:0-2@0 3:0-2@1 1:0-1@2 2:1-2@2", 23);
    }

    private static void treeRepetitions() {
        PackratGrammar x = withText("aab");
        defined(x, 1, 97);
        defined(x, 2, 14, 97);
        defined(x, 3, 2);
        dueTreeOf(x, "0:0-2@0 1:0-1@1 1:1-2@1", 12, 21);
        dueTreeOf(x, "0:0-2@0 1:0-1@1 1:1-2@1", 13, 21);
        // A round that ends where it began is the last and takes part, also the first.
        dueTreeOf(x, "0:0-2@0 2:0-1@1 2:1-2@1 2:2-2@1", 12, 22);
        dueTreeOf(x, "0:0-2@0 2:0-1@1 2:1-2@1 2:2-2@1", 13, 22);
        dueTreeOf(x, "0:0-0@0 3:0-0@1", 12, 23);
        dueTreeOf(x, "0:0-0@0 3:0-0@1", 13, 23);
        dueTreeOf(x, "0:0-0@0", 12, 98);
        // The rule in the round that failed takes no part.
        dueTreeOf(x, "0:0-2@0 3:0-0@1 1:0-1@1 3:1-1@1 1:1-2@1", 12, 10, 23, 21);
        dueTreeOf(x, "0:0-2@0 3:0-0@1 1:0-1@1 3:1-1@1 1:1-2@1", 13, 10, 23, 21);
        dueTreeOf(x, "0:0-2@0 1:0-1@1 1:1-2@1", 12, 12, 21);
        dueTreeOf(x, "0:0-2@0 2:0-1@1 2:1-2@1 2:2-2@1 2:2-2@1", 12, 12, 22);
        dueTreeOf(x, "0:0-3@0 1:0-1@1 1:1-2@1 3:3-3@1", 10, 12, 21, 10, 98, 23);
    }

    private static void orderAndLimits() {
        about("promise 11");
        PackratGrammar x = withText("ab");
        defined(x, 0, 10, 21, 98);
        defined(x, 1, 97);
        x.parse(0, 0);
        String tree = "0:0-2@0 1:0-1@1";
        for (int rule : new int[] {-1, 4, Integer.MIN_VALUE, Integer.MAX_VALUE}) {
            due("refused rule", x.parse(rule, 0), REFUSED);
            dueTree(x, tree);
        }
        for (int place : new int[] {-1, 3, Integer.MIN_VALUE, Integer.MAX_VALUE}) {
            due("refused place", x.parse(0, place), REFUSED);
            dueTree(x, tree);
        }
        for (int rule = -1; rule <= 4; rule++) {
            x.put(97, 98, 0, 0);
            due("a list that is no expression", x.define(rule), false);
            due("pending", x.put(0, 0, 0, 0), 0);
            x.put(97, 0, 0, 0);
            due("a list that is one", x.define(rule), rule >= 0 && rule < 4);
            due("pending", x.put(0, 0, 0, 0), 0);
        }
        dueTree(x, tree);
    }

    // Rule 0 gets the list, rule 1 is stuck everywhere, rules 2 and 3 have no expression.
    private static void dueOutcomes(String text, int[] outcomes, int... list) {
        PackratGrammar x = withText(text);
        defined(x, 1, 21);
        due(shown(list) + " is defined", defined(x, 0, list), true);
        for (int place = 0; place < outcomes.length; place++) {
            due(shown(list) + " on " + text + " at " + place, x.parse(0, place), outcomes[place]);
        }
    }

    private static void dueTreeOf(PackratGrammar x, String tree, int... list) {
        due(shown(list) + " is defined", defined(x, 0, list), true);
        x.parse(0, 0);
        dueTree(x, tree);
    }
}
