import java.util.List;
import java.util.function.Function;
import java.util.function.Supplier;
import java.util.function.ToIntFunction;

// One method for each sentence of the document that names a boundary case, in the order of the
// document. Each object is asked fewer than 512 calls, since nothing is promised beyond them.
public final class BoundaryTests extends DueAnswers {
    // Outside every range of the document; some come into one when cut to 8 or 16 bits, or when
    // multiplied by the size of a row.
    private static final int[] WILD = {Integer.MIN_VALUE, Integer.MIN_VALUE + 1, Integer.MIN_VALUE + 97,
        -(1 << 30), -65536, -256, -159, -98, -97, -4, -3, -2, -1, 256, 353, 65536, 65633,
        1 << 28, 1 << 29, 1 << 30, (1 << 30) + 1, Integer.MAX_VALUE - 1, Integer.MAX_VALUE};

    private static final List<Supplier<PackratGrammar>> STATES =
        List.of(PackratGrammar::new, BoundaryTests::small, BoundaryTests::full);

    public static void main(String[] args) {
        terms();
        promises1To3();
        promises4To7();
        promises8To11();
        language();
        end();
    }

    private static void terms() {
        lastOf512Calls();
        everyMethodAsThe512thCall();
        expressionOfOneToken();
        expressionOfTwelveTokens();
        twelveTokensInEveryRule();
        rangeAsTheLastOfTwelveTokens();
        textOfSixteenLetters();
        placesOfTheText();
        firstAndLastLetter();
        nothingIsMeantAtTheLength();
        emptyAtEveryPlace();
        rangeFromGreaterToSmaller();
        rangeOfOneLetterAndOfAll();
        firstRoundThatEndsWhereItBegan();
        laterRoundThatEndsWhereItBegan();
        roundThatFails();
        roundsOverAFullText();
        partThatFailedLeavesNoNodes();
        lookAheadLeavesNoNodes();
        ruleWithoutExpression();
        ruleAtTheSamePlaceAgain();
        rulesInARingAtTheSamePlace();
        ruleThatIsNotAskedForAgain();
        ruleAtALaterPlaceAgain();
    }

    private static void promises1To3() {
        newObject();
        newObjectBesideAnother();
        putOfNoToken();
        putOfMoreThanTwelve();
        putOfZeros();
        putOfNoTokenAndTooMany();
        defineOfAnEmptyList();
        defineOfAnEmptyListAndNoRule();
        defineOfTooFewTokens();
        defineOfTooManyTokens();
        defineOfARangeWithoutLetters();
        defineOfNoRule();
    }

    private static void promises4To7() {
        insertAtNoPlace();
        insertAtTheLength();
        insertOfNoLetter();
        insertIntoAFullText();
        eraseAtNoPlace();
        eraseFromAnEmptyText();
        eraseFromAFullText();
        changeAtNoPlace();
        changeToNoLetter();
        changeAtTheEdges();
        letterAtNoPlace();
        letterAtTheEdges();
    }

    private static void promises8To11() {
        parseOfNoRule();
        parseAtNoPlace();
        parseAtTheLength();
        parseAfterEveryEdit();
        parseThatFailsEmptiesTheTree();
        parseThatIsStuckEmptiesTheTree();
        treeAroundThirtyNodes();
        treeOfManyMoreThanThirtyNodes();
        treeOfThirtyNodesInOneAnother();
        treeWithMuchToComeAfterItsDeepestNode();
        nodesOfAnEmptyTree();
        nodesAfterEditsAndDefinitions();
        nodeOfNoNumber();
        nodeOfNoWhat();
        nodeOfAFullTree();
        nodeOfAShorterTree();
        refusedParseLeavesTheTree();
        defineLeavesNothingPending();
    }

    private static void lastOf512Calls() {
        about("what it is: an object is used for at most 512 calls");
        PackratGrammar x = new PackratGrammar();
        x.insert(0, 98);
        x.put(11, 97, 22, 0);
        x.define(1);
        x.put(12, 98, 0, 0);
        x.define(2);
        int calls = 5;
        for (int letter = 97; calls + 3 < 512; letter = 195 - letter) {
            due("change", x.change(0, letter), 195 - letter);
            due("parse", x.parse(1, 0), 1);
            due("nodes", x.nodes(), letter == 97 ? 1 : 2);
            calls += 3;
        }
        while (calls < 511) {
            due("letter", x.letter(0), 98);
            calls++;
        }
        due("the 512th call", x.parse(1, 0), 1);
    }

    private static void everyMethodAsThe512thCall() {
        about("what it is: each sentence holds for the 512th call");
        due("put", after511Calls().put(97, 0, 98, 0), 4);
        due("put of no token", after511Calls().put(9, 0, 0, 0), REFUSED);
        due("put of zeros", after511Calls().put(0, 0, 0, 0), 2);
        due("define", after511Calls().define(3), true);
        due("define of no rule", after511Calls().define(4), false);
        due("insert", after511Calls().insert(2, 122), 3);
        due("insert at no place", after511Calls().insert(3, 122), REFUSED);
        due("erase", after511Calls().erase(1), 1);
        due("erase at no place", after511Calls().erase(2), REFUSED);
        due("change", after511Calls().change(1, 122), 98);
        due("change at no place", after511Calls().change(2, 122), REFUSED);
        due("letter", after511Calls().letter(1), 98);
        due("letter at no place", after511Calls().letter(2), REFUSED);
        due("parse that ends", after511Calls().parse(0, 0), 1);
        due("parse that fails", after511Calls().parse(0, 1), FAILS);
        due("parse that is stuck", after511Calls().parse(2, 0), STUCK);
        due("parse of no rule", after511Calls().parse(4, 0), REFUSED);
        due("nodes", after511Calls().nodes(), 2);
        int[] second = {1, 0, 1, 1};
        for (int what = 0; what < 4; what++) {
            due("node(1, " + what + ")", after511Calls().node(1, what), second[what]);
        }
        due("node of no number", after511Calls().node(2, 0), REFUSED);
    }

    // Text "ab"; rule 0 is rule 1, which is the letter a, and rule 2 is stuck; a tree of two nodes;
    // two tokens pending that are one expression.
    private static PackratGrammar after511Calls() {
        PackratGrammar x = withText("ab");
        defined(x, 0, 21);
        defined(x, 1, 97);
        defined(x, 2, 22);
        x.parse(0, 0);
        x.put(12, 1, 0, 0);
        for (int calls = 10; calls < 511; calls++) {
            x.letter(0);
        }
        return x;
    }

    private static void expressionOfOneToken() {
        about("terms: an expression of one token");
        PackratGrammar x = withText("a");
        defined(x, 1, 97);
        dueWhole(x, 0, 1, "0:0-1@0", 97);
        dueWhole(x, 0, 1, "0:0-1@0", 1);
        dueWhole(x, 0, 0, "0:0-0@0", 2);
        dueWhole(x, 0, 1, "0:0-1@0 1:0-1@1", 21);
        defined(x, 1, 22);
        defined(x, 2, 23);
        defined(x, 3, 97);
        dueWhole(x, 0, 1, "0:0-1@0 1:0-1@1 2:0-1@2 3:0-1@3", 21);
    }

    private static void expressionOfTwelveTokens() {
        about("terms: an expression is a list of at most 12 tokens");
        PackratGrammar x = withText("aaaaaab");
        putAll(x, 10, 97, 10, 97, 10, 97, 10, 97, 10, 97, 12);
        due("an expression of 12", x.put(97, 0, 0, 0), 12);
        due("define", x.define(0), true);
        due("parse(0, 0)", x.parse(0, 0), 6);
        due("parse(0, 1)", x.parse(0, 1), 6);
        due("parse(0, 2)", x.parse(0, 2), FAILS);
        putAll(x, 10, 97, 10, 97, 10, 97, 10, 97, 10, 97, 10, 97);
        due("the thirteenth of an expression of 13", x.put(97, 0, 0, 0), REFUSED);
        due("define of its first 12", x.define(0), false);
        due("the first expression stays", x.parse(0, 0), 6);
    }

    private static void twelveTokensInEveryRule() {
        about("terms: the rules 0 .. 3, each with 12 tokens");
        PackratGrammar x = full();
        due("rule 0", x.parse(0, 1), 16);
        due("rule 1", x.parse(1, 0), 5);
        due("rule 1", x.parse(1, 1), FAILS);
        due("rule 2", x.parse(2, 0), 2);
        due("rule 2", x.parse(2, 1), 3);
        due("rule 2", x.parse(2, 2), 4);
        due("rule 2", x.parse(2, 3), FAILS);
        due("rule 3", x.parse(3, 7), 7);
    }

    private static void rangeAsTheLastOfTwelveTokens() {
        about("terms: a range as the last of 12 tokens");
        for (int rule = 0; rule < 4; rule++) {
            PackratGrammar x = withText("abcd");
            due("define", defined(x, rule, 14, 14, 14, 14, 14, 14, 14, 14, 14, 3, 97, 98), true);
            due("at a", x.parse(rule, 0), 1);
            due("at b", x.parse(rule, 1), 2);
            due("at c", x.parse(rule, 2), 2);
            due("define", defined(x, rule, 12, 12, 12, 12, 12, 12, 12, 12, 12, 10, 1, 98), true);
            due("a pair as the last", x.parse(rule, 0), 2);
            due("define", defined(x, rule, 13, 13, 13, 13, 13, 13, 13, 13, 13, 11, 97, 98), true);
            due("a choice as the last", x.parse(rule, 0), 2);
            due("and where it fails", x.parse(rule, 2), FAILS);
        }
    }

    private static void textOfSixteenLetters() {
        about("terms: the text is a list of at most 16 letters");
        PackratGrammar x = withText("abcdefghijklmno");
        due("the sixteenth", x.insert(15, 112), 16);
        due("a seventeenth", x.insert(16, 113), REFUSED);
        dueText(x, "abcdefghijklmnop");
        defined(x, 0, 12, 1);
        due("over the whole text", x.parse(0, 0), 16);
        defined(x, 0, 112);
        due("the last letter", x.parse(0, 15), 16);
    }

    private static void placesOfTheText() {
        about("terms: its places are 0 .. its length");
        String letters = "abcdefghijklmnop";
        for (int length = 0; length <= 16; length++) {
            PackratGrammar x = withText(letters.substring(0, length));
            defined(x, 0, 12, 1);
            due("before the first place of " + length, x.parse(0, -1), REFUSED);
            for (int place = 0; place <= length; place++) {
                due("place " + place + " of " + length, x.parse(0, place), length);
                dueTree(x, "0:" + place + "-" + length + "@0");
            }
            due("behind the last place of " + length, x.parse(0, length + 1), REFUSED);
        }
    }

    private static void firstAndLastLetter() {
        about("terms: letters have the codes 97 .. 122");
        PackratGrammar x = withText("az");
        defined(x, 0, 97);
        defined(x, 1, 122);
        due("a at a", x.parse(0, 0), 1);
        due("a at z", x.parse(0, 1), FAILS);
        due("z at a", x.parse(1, 0), FAILS);
        due("z at z", x.parse(1, 1), 2);
        for (int letter = 97; letter <= 122; letter++) {
            defined(x, 2, letter);
            due("change", x.change(0, letter), letter == 97 ? 97 : letter - 1);
            due("the letter " + letter, x.parse(2, 0), 1);
            due("the letter " + letter + " at z", x.parse(2, 1), letter == 122 ? 2 : FAILS);
        }
    }

    private static void nothingIsMeantAtTheLength() {
        about("terms: a letter, any, a range: if there is a letter at i, else fails");
        for (String text : List.of("", "a", "aaaaaaaaaaaaaaaa")) {
            PackratGrammar x = withText(text);
            defined(x, 0, 97);
            defined(x, 1, 1);
            defined(x, 2, 3, 97, 122);
            for (int rule = 0; rule < 3; rule++) {
                due("rule " + rule + " at the length", x.parse(rule, text.length()), FAILS);
            }
        }
        PackratGrammar x = withText("aa");
        defined(x, 0, 10, 97, 97);
        due("two letters", x.parse(0, 0), 2);
        x.erase(0);
        due("a letter that has gone out is not met", x.parse(0, 0), FAILS);
    }

    private static void emptyAtEveryPlace() {
        about("terms: empty: ends at i");
        PackratGrammar x = withText("abcdefghijklmnop");
        defined(x, 0, 2);
        for (int place = 0; place <= 16; place++) {
            due("parse(0, " + place + ")", x.parse(0, place), place);
        }
    }

    private static void rangeFromGreaterToSmaller() {
        about("terms: a range whose first letter is greater than its second means none");
        for (int[] range : new int[][] {{98, 97}, {99, 97}, {122, 97}, {122, 121}, {110, 109}}) {
            for (int letter = 97; letter <= 122; letter++) {
                PackratGrammar x = withText("" + (char) letter);
                due("define", defined(x, 0, 3, range[0], range[1]), true);
                due(shown(range) + " at " + (char) letter, x.parse(0, 0), FAILS);
                due("it does not lie ahead", defined(x, 1, 16, 3, range[0], range[1]), true);
                due("not " + shown(range) + " at " + (char) letter, x.parse(1, 0), 0);
            }
        }
    }

    private static void rangeOfOneLetterAndOfAll() {
        about("terms: a range: one letter from the first to the second one");
        for (int[] range : new int[][] {{97, 97}, {122, 122}, {109, 109}, {97, 122}, {98, 121}, {109, 110}}) {
            PackratGrammar x = withText("a");
            defined(x, 0, 3, range[0], range[1]);
            for (int letter = 97; letter <= 122; letter++) {
                x.change(0, letter);
                boolean meant = letter >= range[0] && letter <= range[1];
                due(shown(range) + " at " + (char) letter, x.parse(0, 0), meant ? 1 : FAILS);
            }
        }
    }

    private static void firstRoundThatEndsWhereItBegan() {
        about("terms: the first round that ends where it began is the last and takes part");
        for (int repetition = 12; repetition <= 13; repetition++) {
            PackratGrammar x = withText("ab");
            defined(x, 3, 2);
            for (int place = 0; place <= 2; place++) {
                String nodes = ":" + place + "-" + place + "@";
                dueWhole(x, place, place, "0" + nodes + "0 3" + nodes + "1", repetition, 23);
            }
            dueWhole(x, 0, 0, "0:0-0@0 3:0-0@1 3:0-0@1", repetition, 10, 23, 23);
            dueWhole(x, 0, 0, "0:0-0@0 3:0-0@1", repetition, 11, 98, 23);
            dueWhole(x, 0, 0, "0:0-0@0 3:0-0@1", repetition, 10, 15, 97, 23);
            dueWhole(x, 0, 0, "0:0-0@0 3:0-0@1", repetition, 14, 23);
            dueWhole(x, 0, 0, "0:0-0@0 3:0-0@1", repetition, 12, 23);
            dueWhole(x, 0, 0, "0:0-0@0 3:0-0@1", repetition, 13, 23);
            dueWhole(x, 0, 0, "0:0-0@0", repetition, 2);
            dueWhole(x, 0, 0, "0:0-0@0", repetition, 16, 98);
            dueWhole(x, 0, 1, "0:0-1@0 3:0-0@1 3:1-1@1", 10, repetition, 23, 10, 97, 23);
        }
    }

    private static void laterRoundThatEndsWhereItBegan() {
        about("terms: a later round that ends where it began is the last and takes part");
        for (int repetition = 12; repetition <= 13; repetition++) {
            PackratGrammar x = withText("aab");
            defined(x, 1, 14, 97);
            defined(x, 2, 11, 97, 2);
            defined(x, 3, 2);
            dueWhole(x, 0, 2, "0:0-2@0 1:0-1@1 1:1-2@1 1:2-2@1", repetition, 21);
            dueWhole(x, 0, 2, "0:0-2@0 2:0-1@1 2:1-2@1 2:2-2@1", repetition, 22);
            dueWhole(x, 1, 2, "0:1-2@0 1:1-2@1 1:2-2@1", repetition, 21);
            dueWhole(x, 2, 2, "0:2-2@0 1:2-2@1", repetition, 21);
            dueWhole(x, 0, 2, "0:0-2@0 3:2-2@1", repetition, 11, 97, 23);
            dueWhole(x, 0, 3, "0:0-3@0 3:3-3@1", repetition, 11, 1, 23);
            dueWhole(x, 0, 3, "0:0-3@0 1:0-1@1 1:1-2@1 1:2-2@1", 10, repetition, 21, 98);
        }
    }

    private static void roundThatFails() {
        about("terms: as often as possible ends where a round fails, at least once only after one");
        PackratGrammar x = withText("ab");
        defined(x, 1, 97);
        dueWhole(x, 1, 1, "0:1-1@0", 12, 21);
        dueWhole(x, 2, 2, "0:2-2@0", 12, 21);
        dueWhole(x, 1, FAILS, "", 13, 21);
        dueWhole(x, 2, FAILS, "", 13, 21);
        dueWhole(x, 0, 1, "0:0-1@0 1:0-1@1", 12, 21);
        dueWhole(x, 0, 1, "0:0-1@0 1:0-1@1", 13, 21);
        // The rule that ended inside the round that failed takes no part.
        dueWhole(x, 0, 0, "0:0-0@0", 12, 10, 21, 97);
        dueWhole(x, 0, FAILS, "", 13, 10, 21, 97);
    }

    private static void roundsOverAFullText() {
        about("terms: in repetitions those of each round that ended");
        for (int repetition = 12; repetition <= 13; repetition++) {
            PackratGrammar x = withText("aaaaaaaaaaaaaaaa");
            defined(x, 1, 97);
            StringBuilder tree = new StringBuilder("0:0-16@0");
            for (int place = 0; place < 16; place++) {
                tree.append(" 1:" + place + "-" + (place + 1) + "@1");
            }
            dueWhole(x, 0, 16, tree.toString(), repetition, 21);
            defined(x, 1, 14, 97);
            dueWhole(x, 0, 16, tree + " 1:16-16@1", repetition, 21);
        }
    }

    private static void partThatFailedLeavesNoNodes() {
        about("terms: in a choice those of the part that ended");
        PackratGrammar x = withText("ab");
        defined(x, 1, 97);
        defined(x, 2, 1);
        dueWhole(x, 0, 1, "0:0-1@0 2:0-1@1", 11, 10, 21, 97, 22);
        dueWhole(x, 0, 1, "0:0-1@0 1:0-1@1", 11, 21, 22);
        dueWhole(x, 1, 2, "0:1-2@0 2:1-2@1", 11, 21, 22);
        dueWhole(x, 0, 0, "0:0-0@0", 14, 10, 21, 97);
        dueWhole(x, 0, FAILS, "", 11, 10, 21, 97, 10, 22, 97);
    }

    private static void lookAheadLeavesNoNodes() {
        about("terms: in look-ahead none");
        PackratGrammar x = withText("ab");
        defined(x, 1, 97);
        dueWhole(x, 0, 0, "0:0-0@0", 15, 21);
        dueWhole(x, 1, 1, "0:1-1@0", 16, 21);
        dueWhole(x, 0, 0, "0:0-0@0", 16, 16, 21);
        dueWhole(x, 0, 0, "0:0-0@0", 15, 10, 21, 1);
        dueWhole(x, 0, 1, "0:0-1@0 1:0-1@1", 10, 15, 21, 21);
        dueWhole(x, 2, FAILS, "", 15, 1);
        dueWhole(x, 2, 2, "0:2-2@0", 16, 1);
    }

    private static void ruleWithoutExpression() {
        about("terms: a rule that has no expression fails");
        for (int place = 0; place <= 2; place++) {
            PackratGrammar x = withText("ab");
            String alone = "0:" + place + "-" + place + "@0";
            due("asked itself", x.parse(3, place), FAILS);
            dueWhole(x, place, FAILS, "", 23);
            dueWhole(x, place, FAILS, "", 10, 23, 2);
            dueWhole(x, place, FAILS, "", 10, 2, 23);
            dueWhole(x, place, place, alone, 11, 23, 2);
            dueWhole(x, place, place, alone, 11, 2, 23);
            dueWhole(x, place, place, alone, 12, 23);
            dueWhole(x, place, FAILS, "", 13, 23);
            dueWhole(x, place, place, alone, 14, 23);
            dueWhole(x, place, FAILS, "", 15, 23);
            dueWhole(x, place, place, alone, 16, 23);
            defined(x, 3, 2);
            due("once it has one", x.parse(0, place), FAILS);
            x.define(3);
            due("once it has none again", x.parse(0, place), place);
        }
    }

    private static void ruleAtTheSamePlaceAgain() {
        about("terms: a rule that comes back to itself at the same place is stuck");
        int[][] lists = {{20}, {10, 20, 97}, {10, 2, 20}, {10, 14, 98, 20}, {11, 20, 97}, {11, 98, 20},
            {12, 20}, {13, 20}, {14, 20}, {15, 20}, {16, 20}, {10, 12, 98, 20}, {10, 15, 97, 20},
            {10, 16, 98, 20}, {12, 12, 20}, {11, 10, 20, 97, 2}, {14, 10, 2, 20}};
        for (int[] list : lists) {
            PackratGrammar x = withText("a");
            dueWhole(x, 0, STUCK, "", list);
            // What asks for it is stuck too, whatever it would do with the answer.
            due("asked by a choice", defined(x, 1, 11, 20, 2) ? x.parse(1, 0) : 0, STUCK);
            due("asked as look-ahead", defined(x, 1, 16, 20) ? x.parse(1, 0) : 0, STUCK);
            due("asked by a repetition", defined(x, 1, 12, 20) ? x.parse(1, 0) : 0, STUCK);
        }
    }

    private static void rulesInARingAtTheSamePlace() {
        about("terms: a rule that comes back to itself through others is stuck");
        PackratGrammar x = withText("ab");
        for (int rule = 0; rule < 4; rule++) {
            defined(x, rule, 20 + (rule + 1) % 4);
        }
        for (int rule = 0; rule < 4; rule++) {
            for (int place = 0; place <= 2; place++) {
                due("parse(" + rule + ", " + place + ")", x.parse(rule, place), STUCK);
            }
        }
        defined(x, 3, 11, 97, 20);
        for (int rule = 0; rule < 4; rule++) {
            due("left at a", x.parse(rule, 0), 1);
            due("not left at b", x.parse(rule, 1), STUCK);
            due("not left at the length", x.parse(rule, 2), STUCK);
        }
        x.define(3);
        due("the ring is open", x.parse(0, 1), FAILS);
    }

    private static void ruleThatIsNotAskedForAgain() {
        about("terms: stuck only when that is asked for");
        PackratGrammar x = withText("ab");
        defined(x, 1, 21);
        dueWhole(x, 0, 1, "0:0-1@0", 11, 97, 20);
        dueWhole(x, 0, FAILS, "", 10, 98, 20);
        dueWhole(x, 0, 1, "0:0-1@0", 11, 97, 21);
        dueWhole(x, 1, STUCK, "", 11, 97, 21);
        dueWhole(x, 0, 0, "0:0-0@0", 12, 10, 98, 21);
        dueWhole(x, 1, STUCK, "", 12, 10, 98, 21);
        dueWhole(x, 0, FAILS, "", 13, 10, 98, 21);
        dueWhole(x, 0, 0, "0:0-0@0", 14, 10, 98, 21);
        dueWhole(x, 0, FAILS, "", 15, 10, 98, 21);
        dueWhole(x, 0, 0, "0:0-0@0", 16, 10, 98, 21);
        // The first round ends, the second one is stuck, and so is the whole.
        dueWhole(x, 0, STUCK, "", 12, 11, 97, 21);
        dueWhole(x, 0, STUCK, "", 13, 11, 97, 21);
    }

    private static void ruleAtALaterPlaceAgain() {
        about("terms: a rule that comes back to itself at a later place is not stuck");
        PackratGrammar x = withText("aaaaaaaaaaaaaaaa");
        due("define", defined(x, 0, 11, 10, 1, 20, 2), true);
        due("parse(0, 0)", x.parse(0, 0), 16);
        due("nodes", x.nodes(), 17);
        for (int number = 0; number < 17; number++) {
            due("start", x.node(number, 1), number);
            due("end", x.node(number, 2), 16);
            due("depth", x.node(number, 3), number);
        }
        due("define", defined(x, 0, 10, 1, 20), true);
        due("it fails at the length", x.parse(0, 0), FAILS);
        due("define", defined(x, 0, 11, 10, 1, 20, 20), true);
        due("it is stuck at the length", x.parse(0, 0), STUCK);
    }

    private static void newObject() {
        about("promise 1: no rule has an expression, the text is empty, nothing is pending, the tree is empty");
        PackratGrammar x = new PackratGrammar();
        due("nodes", x.nodes(), 0);
        for (int what = 0; what < 4; what++) {
            due("node(0, " + what + ")", x.node(0, what), REFUSED);
        }
        due("letter(0)", x.letter(0), REFUSED);
        due("put of nothing", x.put(0, 0, 0, 0), 0);
        for (int rule = 0; rule < 4; rule++) {
            due("parse(" + rule + ", 0)", x.parse(rule, 0), FAILS);
            due("parse(" + rule + ", 1)", x.parse(rule, 1), REFUSED);
        }
        due("nodes after parses", x.nodes(), 0);
        due("define of nothing", x.define(0), true);
    }

    private static void newObjectBesideAnother() {
        about("promise 1: a new object, whatever was done with others");
        String answers = answers(new PackratGrammar());
        PackratGrammar other = full();
        due("a new one", answers(new PackratGrammar()), answers);
        due("the other one", answers(other), answers(full()));
    }

    private static void putOfNoToken() {
        about("promise 2: REFUSED, and nothing changes, if one is not 0 and no token");
        int[] near = {4, 5, 6, 7, 8, 9, 17, 18, 19, 24, 25, 95, 96, 123, 124};
        for (int[] list : new int[][] {near, WILD}) {
            for (int token : list) {
                for (Supplier<PackratGrammar> state : STATES) {
                    dueRefused("put(" + token + ", 0, 0, 0)", state, x -> x.put(token, 0, 0, 0));
                    dueRefused("put(97, " + token + ", 0, 0)", state, x -> x.put(97, token, 0, 0));
                    dueRefused("put(97, 0, " + token + ", 98)", state, x -> x.put(97, 0, token, 98));
                    dueRefused("put(97, 98, 99, " + token + ")", state, x -> x.put(97, 98, 99, token));
                }
            }
        }
        int[] tokens = {1, 2, 3, 10, 11, 12, 13, 14, 15, 16, 20, 21, 22, 23, 97, 98, 109, 121, 122};
        for (int token : tokens) {
            due("put of " + token, new PackratGrammar().put(token, 0, 0, 0), 1);
            due("put of " + token, new PackratGrammar().put(token, token, token, token), 4);
        }
    }

    private static void putOfMoreThanTwelve() {
        about("promise 2: REFUSED, and nothing changes, if there would be more than 12");
        for (int before = 0; before <= 12; before++) {
            for (int places = 0; places < 16; places++) {
                int added = Integer.bitCount(places);
                PackratGrammar x = withPending(before);
                int got = x.put(97 * (places & 1), 97 * (places >> 1 & 1), 97 * (places >> 2 & 1), 97 * (places >> 3));
                boolean fits = before + added <= 12;
                due(before + " and " + added, got, fits ? before + added : REFUSED);
                due("pending then", x.put(0, 0, 0, 0), fits ? before + added : before);
                due("define", x.define(0), fits ? added == 1 || before + added == 0 : before == 0);
            }
        }
        for (int added = 1; added <= 4; added++) {
            int tokens = added;
            dueRefused(added + " more than 12", BoundaryTests::full,
                x -> x.put(1, tokens > 1 ? 1 : 0, tokens > 2 ? 1 : 0, tokens > 3 ? 1 : 0));
        }
        PackratGrammar x = withPending(11);
        due("two more than 11", x.put(98, 99, 0, 0), REFUSED);
        due("the twelfth", x.put(97, 0, 0, 0), 12);
        due("define of what was not refused", x.define(0), true);
        x.insert(0, 97);
        due("parse", x.parse(0, 0), 1);
    }

    private static void putOfZeros() {
        about("promise 2: those that are not 0, in order");
        for (int before = 0; before <= 12; before++) {
            due("put of zeros with " + before, withPending(before).put(0, 0, 0, 0), before);
        }
        PackratGrammar x = withText("abcd");
        due("put(0, 0, 0, 10)", x.put(0, 0, 0, 10), 1);
        due("put(97, 0, 10, 0)", x.put(97, 0, 10, 0), 3);
        due("put(0, 98, 0, 10)", x.put(0, 98, 0, 10), 5);
        due("put(0, 99, 100, 0)", x.put(0, 99, 100, 0), 7);
        due("define", x.define(0), true);
        due("parse", x.parse(0, 0), 4);
        due("put of four", x.put(10, 97, 10, 98), 4);
        due("put of one", x.put(0, 0, 99, 0), 5);
        due("define", x.define(0), true);
        due("parse", x.parse(0, 0), 3);
    }

    private static void putOfNoTokenAndTooMany() {
        about("promise 2: no token, and more than 12");
        dueRefused("put(97, 98, 99, 4)", BoundaryTests::full, x -> x.put(97, 98, 99, 4));
        PackratGrammar x = withPending(10);
        due("too many, one of them no token", x.put(97, 97, 97, 9), REFUSED);
        due("not too many, but for the wrong one", x.put(97, 97, 9, 0), REFUSED);
        due("pending", x.put(0, 0, 0, 0), 10);
    }

    private static void defineOfAnEmptyList() {
        about("promise 3: an empty list: the rule has none from now on: true");
        for (int rule = 0; rule < 4; rule++) {
            PackratGrammar x = withText("a");
            due("of a rule that has none", x.define(rule), true);
            due("parse", x.parse(rule, 0), FAILS);
            for (int each = 0; each < 4; each++) {
                defined(x, each, 97);
            }
            due("of a rule that has one", x.define(rule), true);
            for (int each = 0; each < 4; each++) {
                due("parse(" + each + ", 0)", x.parse(each, 0), each == rule ? FAILS : 1);
            }
            due("once more", x.define(rule), true);
            due("of zeros alone", x.put(0, 0, 0, 0) == 0 && x.define(rule), true);
            due("the rule has none", x.parse(rule, 0), FAILS);
            due("and gets one again", defined(x, rule, 2), true);
            due("parse", x.parse(rule, 0), 0);
        }
    }

    private static void defineOfAnEmptyListAndNoRule() {
        about("promise 3: an empty list and a rule outside 0..3: false, and the grammar stays");
        for (int rule : new int[] {-1, 4, 5, 12, 19, 20, 23, 24, 47, 48}) {
            dueUndefined(rule);
        }
        for (int rule : WILD) {
            dueUndefined(rule);
        }
    }

    private static void defineOfTooFewTokens() {
        about("promise 3: a list that breaks off before the expression is whole: false, and the grammar stays");
        int[][] lists = {{3}, {3, 97}, {10}, {10, 97}, {10, 3, 97}, {10, 3, 97, 98}, {11}, {11, 97}, {12}, {13},
            {14}, {15}, {16}, {12, 12}, {10, 12}, {10, 12, 97}, {11, 10, 97, 98}, {10, 10, 97, 98}, {10, 97, 12},
            {10, 97, 3, 97}, {16, 10, 97}, {12, 12, 12, 12, 12, 12, 12, 12, 12, 12, 12, 12},
            {10, 97, 10, 97, 10, 97, 10, 97, 10, 97, 10, 97}, {2, 2, 2, 2, 2, 2, 2, 2, 2, 2, 2, 10},
            {10, 10, 10, 10, 10, 10, 97, 97, 97, 97, 97, 97}};
        for (int[] list : lists) {
            dueNotOneExpression(list);
        }
        // A full list that breaks off leaves nothing to look at behind it.
        for (int token : new int[] {3, 10, 11, 12, 13, 14, 15, 16}) {
            dueNotOneExpression(12, 12, 12, 12, 12, 12, 12, 12, 12, 12, 12, token);
            dueNotOneExpression(10, 97, 10, 97, 10, 97, 10, 97, 10, 97, 97, token);
        }
        for (int token : new int[] {3, 10, 11}) {
            dueNotOneExpression(12, 12, 12, 12, 12, 12, 12, 12, 12, 12, token, 97);
        }
    }

    private static void defineOfTooManyTokens() {
        about("promise 3: a list with tokens after the expression: false, and the grammar stays");
        int[][] lists = {{97, 97}, {1, 2}, {2, 2}, {20, 21}, {3, 97, 98, 99}, {10, 97, 98, 99}, {11, 97, 98, 12},
            {12, 97, 97}, {16, 2, 3, 97, 98}, {97, 3}, {97, 10}, {97, 12}, {97, 10, 97, 98}, {20, 12, 97},
            {14, 97, 14, 97}, {97, 97, 97, 97, 97, 97, 97, 97, 97, 97, 97, 97},
            {10, 97, 10, 97, 10, 97, 10, 97, 10, 97, 97, 97}};
        for (int[] list : lists) {
            dueNotOneExpression(list);
        }
    }

    private static void defineOfARangeWithoutLetters() {
        about("promise 3: a range is followed by two letter tokens");
        for (int token : new int[] {1, 2, 3, 10, 11, 12, 13, 14, 15, 16, 20, 21, 22, 23}) {
            dueNotOneExpression(3, 97, token);
            dueNotOneExpression(3, token, 97);
            dueNotOneExpression(3, token, token);
            dueNotOneExpression(12, 3, token, 98);
        }
        dueNotOneExpression(3, 3, 97, 98, 99);
        dueNotOneExpression(3, 97, 3, 97, 98);
        due("at both edges", defined(new PackratGrammar(), 0, 3, 97, 122), true);
        due("turned round", defined(new PackratGrammar(), 0, 3, 122, 97), true);
        due("as the last of 12", defined(new PackratGrammar(), 0, 12, 12, 12, 12, 12, 12, 12, 12, 12, 3, 97, 98), true);
    }

    private static void defineOfNoRule() {
        about("promise 3: a rule outside 0..3: false, and the grammar stays");
        for (int[] list : new int[][] {{-1, 4, 5, 12, 19, 20, 23, 24, 47, 48}, WILD}) {
            for (int rule : list) {
                for (Supplier<PackratGrammar> state : STATES) {
                    dueDefinedLike("define(" + rule + ")", state, x -> defined(x, rule, 2));
                    dueDefinedLike("define(" + rule + ") of what is pending", state, x -> x.define(rule));
                }
            }
        }
    }

    private static void insertAtNoPlace() {
        about("promise 4: REFUSED if the place is out of range");
        for (int place : WILD) {
            for (Supplier<PackratGrammar> state : STATES) {
                dueRefused("insert(" + place + ", 97)", state, x -> x.insert(place, 97));
            }
        }
        for (int beyond = 1; beyond <= 20; beyond++) {
            int far = beyond;
            dueRefused("behind the length of 0", PackratGrammar::new, x -> x.insert(far, 97));
            dueRefused("behind the length of 3", BoundaryTests::small, x -> x.insert(3 + far, 97));
            dueRefused("behind the length of 16", BoundaryTests::full, x -> x.insert(16 + far, 97));
        }
    }

    private static void insertAtTheLength() {
        about("promise 4: the place 0 .. length");
        PackratGrammar x = new PackratGrammar();
        for (int length = 0; length < 16; length++) {
            due("one behind the length", x.insert(length + 1, 97), REFUSED);
            due("at the length", x.insert(length, 97 + length), length + 1);
        }
        dueText(x, "abcdefghijklmnop");
        x = new PackratGrammar();
        for (int length = 0; length < 16; length++) {
            due("at the start", x.insert(0, 97 + length), length + 1);
        }
        dueText(x, "ponmlkjihgfedcba");
        x = withText("ab");
        due("between", x.insert(1, 122), 3);
        due("before the last", x.insert(2, 121), 4);
        dueText(x, "azyb");
    }

    private static void insertOfNoLetter() {
        about("promise 4: REFUSED if the letter (97 .. 122) is out of range");
        for (int[] list : new int[][] {{0, 1, 20, 65, 90, 95, 96, 123, 124, 127}, WILD}) {
            for (int letter : list) {
                for (Supplier<PackratGrammar> state : STATES) {
                    dueRefused("insert(0, " + letter + ")", state, x -> x.insert(0, letter));
                    dueRefused("insert(" + letter + ", " + letter + ")", state, x -> x.insert(letter, letter));
                }
                dueRefused("insert(3, " + letter + ")", BoundaryTests::small, x -> x.insert(3, letter));
            }
        }
        PackratGrammar x = new PackratGrammar();
        due("the first letter", x.insert(0, 97), 1);
        due("the last letter", x.insert(1, 122), 2);
        dueText(x, "az");
    }

    private static void insertIntoAFullText() {
        about("promise 4: REFUSED if the text has 16");
        for (int place = 0; place <= 17; place++) {
            int at = place;
            dueRefused("insert(" + place + ", 122)", BoundaryTests::full, x -> x.insert(at, 122));
        }
        PackratGrammar x = withText("abcdefghijklmnop");
        x.change(15, 122);
        due("a change makes no room", x.insert(16, 97), REFUSED);
        x.erase(0);
        due("an erasure does", x.insert(15, 97), 16);
        due("for one letter", x.insert(16, 97), REFUSED);
        dueText(x, "bcdefghijklmnoza");
    }

    private static void eraseAtNoPlace() {
        about("promise 5: REFUSED if there is none");
        for (int place : WILD) {
            for (Supplier<PackratGrammar> state : STATES) {
                dueRefused("erase(" + place + ")", state, x -> x.erase(place));
            }
        }
        for (int beyond = 0; beyond <= 20; beyond++) {
            int far = beyond;
            dueRefused("from the length of 3", BoundaryTests::small, x -> x.erase(3 + far));
            dueRefused("from the length of 16", BoundaryTests::full, x -> x.erase(16 + far));
        }
    }

    private static void eraseFromAnEmptyText() {
        about("promise 5: the text empty");
        for (int place = -1; place <= 16; place++) {
            int at = place;
            dueRefused("erase(" + place + ")", PackratGrammar::new, x -> x.erase(at));
        }
        PackratGrammar x = withText("a");
        due("the only letter", x.erase(0), 0);
        due("the text that has become empty", x.erase(0), REFUSED);
        due("it takes a letter again", x.insert(0, 98), 1);
        dueText(x, "b");
    }

    private static void eraseFromAFullText() {
        about("promise 5: the text with 16");
        String letters = "abcdefghijklmnop";
        for (int place = 0; place < 16; place++) {
            PackratGrammar x = withText(letters);
            due("erase(" + place + ")", x.erase(place), 15);
            dueText(x, letters.substring(0, place) + letters.substring(place + 1));
            due("the place that has gone", x.letter(15), REFUSED);
        }
        PackratGrammar x = withText(letters);
        for (int length = 15; length >= 0; length--) {
            due("the letter behind the last", x.erase(length + 1), REFUSED);
            due("the last letter", x.erase(length), length);
        }
        dueText(x, "");
    }

    private static void changeAtNoPlace() {
        about("promise 6: REFUSED if there is none");
        for (int place : WILD) {
            for (Supplier<PackratGrammar> state : STATES) {
                dueRefused("change(" + place + ", 122)", state, x -> x.change(place, 122));
            }
        }
        for (int beyond = 0; beyond <= 20; beyond++) {
            int far = beyond;
            dueRefused("from the length of 0", PackratGrammar::new, x -> x.change(far, 122));
            dueRefused("from the length of 3", BoundaryTests::small, x -> x.change(3 + far, 122));
            dueRefused("from the length of 16", BoundaryTests::full, x -> x.change(16 + far, 122));
        }
    }

    private static void changeToNoLetter() {
        about("promise 6: REFUSED if letter is not 97 .. 122");
        for (int[] list : new int[][] {{0, 1, 20, 65, 90, 95, 96, 123, 124, 127}, WILD}) {
            for (int letter : list) {
                for (Supplier<PackratGrammar> state : STATES) {
                    dueRefused("change(0, " + letter + ")", state, x -> x.change(0, letter));
                    dueRefused("change(" + letter + ", " + letter + ")", state, x -> x.change(letter, letter));
                }
                dueRefused("change(15, " + letter + ")", BoundaryTests::full, x -> x.change(15, letter));
            }
        }
    }

    private static void changeAtTheEdges() {
        about("promise 6: else the old one");
        PackratGrammar x = withText("abcdefghijklmnop");
        due("the first place", x.change(0, 122), 97);
        due("the last place", x.change(15, 97), 112);
        due("to the letter that stands there", x.change(15, 97), 97);
        due("back", x.change(0, 97), 122);
        dueText(x, "abcdefghijklmnoa");
        x = withText("m");
        due("the only place", x.change(0, 122), 109);
        due("once more", x.change(0, 97), 122);
        dueText(x, "a");
    }

    private static void letterAtNoPlace() {
        about("promise 7: REFUSED if there is none");
        for (int place : WILD) {
            for (Supplier<PackratGrammar> state : STATES) {
                dueRefused("letter(" + place + ")", state, x -> x.letter(place));
            }
        }
        for (int beyond = 0; beyond <= 20; beyond++) {
            int far = beyond;
            dueRefused("from the length of 0", PackratGrammar::new, x -> x.letter(far));
            dueRefused("from the length of 3", BoundaryTests::small, x -> x.letter(3 + far));
            dueRefused("from the length of 16", BoundaryTests::full, x -> x.letter(16 + far));
        }
    }

    private static void letterAtTheEdges() {
        about("promise 7: the letter at the place");
        PackratGrammar x = withText("abcdefghijklmnop");
        for (int place = 0; place < 16; place++) {
            due("letter(" + place + ")", x.letter(place), 97 + place);
        }
        for (int length = 15; length >= 0; length--) {
            x.erase(0);
            due("the last one", x.letter(length - 1), length == 0 ? REFUSED : 112);
            due("at the length", x.letter(length), REFUSED);
        }
    }

    private static void parseOfNoRule() {
        about("promise 8: the rule outside 0..3 is REFUSED");
        for (int[] list : new int[][] {{-1, 4, 5, 12, 19, 20, 23, 24, 47, 48}, WILD}) {
            for (int rule : list) {
                for (Supplier<PackratGrammar> state : STATES) {
                    dueRefused("parse(" + rule + ", 0)", state, x -> x.parse(rule, 0));
                    dueRefused("parse(" + rule + ", 17)", state, x -> x.parse(rule, 17));
                }
            }
        }
    }

    private static void parseAtNoPlace() {
        about("promise 8: the place outside 0 .. length is REFUSED");
        for (int rule = 0; rule < 4; rule++) {
            int of = rule;
            for (int place : WILD) {
                for (Supplier<PackratGrammar> state : STATES) {
                    dueRefused("parse(" + rule + ", " + place + ")", state, x -> x.parse(of, place));
                }
            }
            for (int beyond = 1; beyond <= 20; beyond++) {
                int far = beyond;
                dueRefused("behind the length of 0", PackratGrammar::new, x -> x.parse(of, far));
                dueRefused("behind the length of 3", BoundaryTests::small, x -> x.parse(of, 3 + far));
                dueRefused("behind the length of 16", BoundaryTests::full, x -> x.parse(of, 16 + far));
            }
        }
    }

    private static void parseAtTheLength() {
        about("promise 8: the place 0 .. length");
        PackratGrammar x = new PackratGrammar();
        defined(x, 3, 2);
        for (int length = 0; length <= 16; length++) {
            due("at the length of " + length, x.parse(3, length), length);
            dueTree(x, "3:" + length + "-" + length + "@0");
            due("one behind the length of " + length, x.parse(3, length + 1), REFUSED);
            x.insert(length, 97);
        }
        x.erase(0);
        due("a place that has gone", x.parse(3, 16), REFUSED);
        due("the last one then", x.parse(3, 15), 15);
    }

    private static void parseAfterEveryEdit() {
        about("promise 8: what the rule does after an edit far behind the place");
        PackratGrammar x = withText("aaaaaaaaaaaaaaa");
        defined(x, 0, 10, 15, 10, 12, 97, 98, 97);
        defined(x, 1, 14, 20);
        due("no b", x.parse(1, 0), 0);
        x.insert(15, 98);
        due("a b at the end", x.parse(1, 0), 1);
        dueTree(x, "1:0-1@0 0:0-1@1");
        x.change(15, 99);
        due("another letter there", x.parse(1, 0), 0);
        x.change(15, 98);
        due("the b again", x.parse(1, 0), 1);
        x.change(7, 99);
        due("another letter before it", x.parse(1, 0), 0);
        due("behind that letter", x.parse(1, 8), 9);
        x.erase(7);
        due("without that letter", x.parse(1, 0), 1);
        x.erase(14);
        due("without the b", x.parse(1, 0), 0);
        x.insert(0, 98);
        due("a b at the start", x.parse(1, 0), 0);
        defined(x, 0, 12, 1);
        due("with another rule 0", x.parse(1, 0), 15);
        x.define(0);
        due("without rule 0", x.parse(1, 0), 0);
    }

    private static void parseThatFailsEmptiesTheTree() {
        about("promise 8: if it FAILS the tree is empty");
        PackratGrammar x = small();
        due("nodes before", x.nodes(), 2);
        due("a rule without expression", x.parse(3, 0), FAILS);
        dueEmptyTree(x);
        x.parse(0, 0);
        due("nodes again", x.nodes(), 2);
        due("a rule that does not fit", x.parse(0, 1), FAILS);
        dueEmptyTree(x);
        x = full();
        due("nodes of a full tree", x.nodes(), 30);
        due("a rule that does not fit", x.parse(1, 1), FAILS);
        dueEmptyTree(x);
    }

    private static void parseThatIsStuckEmptiesTheTree() {
        about("promise 8: if it is STUCK the tree is empty");
        PackratGrammar x = small();
        due("nodes before", x.nodes(), 2);
        due("stuck", x.parse(2, 0), STUCK);
        dueEmptyTree(x);
        due("stuck once more", x.parse(2, 3), STUCK);
        dueEmptyTree(x);
        x = full();
        // Rules that ended before the whole was stuck leave no node either.
        x.define(2);
        defined(x, 2, 10, 20, 22);
        due("stuck at the length", x.parse(2, 0), STUCK);
        dueEmptyTree(x);
    }

    private static void treeAroundThirtyNodes() {
        about("promise 8: the tree, of which the first 30 nodes are kept");
        // From place p: the root, two nodes for each letter behind p, and those that rule 0 ends with.
        int[][] ends = {{2}, {23}, {10, 23, 23}};
        for (int more = 0; more < 3; more++) {
            PackratGrammar x = withText("aaaaaaaaaaaaaaaa");
            defined(x, 1, 10, 22, 1);
            defined(x, 2, 2);
            defined(x, 3, 2);
            putAll(x, 10, 12, 21);
            due("define", defined(x, 0, ends[more]), true);
            for (int place = 16; place >= 0; place--) {
                int all = 1 + 2 * (16 - place) + more;
                due("parse(0, " + place + ")", x.parse(0, place), 16);
                due("nodes of " + all, x.nodes(), all < 30 ? all : 30);
                due("node 28 of " + all, x.node(28, 3) != REFUSED, all >= 29);
                due("node 29 of " + all, x.node(29, 3) != REFUSED, all >= 30);
                due("node 30 of " + all, x.node(30, 3), REFUSED);
            }
        }
    }

    private static void treeOfManyMoreThanThirtyNodes() {
        about("promise 8: a tree of many more than 30 nodes");
        PackratGrammar x = full();
        // Rule 0 has four empty rules for each of the 16 letters.
        StringBuilder tree = new StringBuilder("0:0-16@0");
        for (int number = 1; number < 30; number++) {
            int place = (number - 1) / 4;
            tree.append(" 3:" + place + "-" + place + "@1");
        }
        dueTree(x, tree.toString());
        // Rule 0 asks for itself behind each letter, between two pairs of other rules.
        x = withText("aaaaaaaaaaaaaaaa");
        defined(x, 3, 2);
        defined(x, 0, 11, 10, 23, 10, 1, 10, 20, 10, 23, 23, 23);
        due("parse", x.parse(0, 0), 16);
        tree = new StringBuilder();
        for (int place = 0; place < 15; place++) {
            tree.append(" 0:" + place + "-16@" + place + " 3:" + place + "-" + place + "@" + (place + 1));
        }
        dueTree(x, tree.substring(1));
    }

    private static void treeOfThirtyNodesInOneAnother() {
        about("promise 8: a tree in which each node lies in the one before");
        PackratGrammar x = withText("aaaaaaaaaaaaaaaa");
        for (int rule = 0; rule < 3; rule++) {
            defined(x, rule, 14, 14, 14, 14, 14, 14, 14, 14, 14, 14, 14, 21 + rule);
        }
        defined(x, 3, 14, 14, 14, 14, 14, 14, 14, 14, 14, 10, 1, 20);
        for (int place = 16; place >= 0; place--) {
            due("parse(0, " + place + ")", x.parse(0, place), 16);
        }
        StringBuilder tree = new StringBuilder();
        for (int number = 0; number < 30; number++) {
            tree.append(" " + number % 4 + ":" + number / 4 + "-16@" + number);
        }
        dueTree(x, tree.substring(1));
    }

    private static void treeWithMuchToComeAfterItsDeepestNode() {
        about("promise 8: a tree whose nodes have many others to come after them");
        PackratGrammar x = withText("aaaaaa");
        defined(x, 0, 10, 10, 10, 10, 10, 21, 23, 23, 23, 23, 23);
        defined(x, 1, 10, 10, 10, 10, 10, 22, 23, 23, 23, 23, 23);
        defined(x, 2, 11, 10, 10, 10, 10, 1, 20, 23, 23, 23, 2);
        defined(x, 3, 2);
        due("parse", x.parse(0, 0), 6);
        StringBuilder tree = new StringBuilder();
        for (int number = 0; number < 21; number++) {
            tree.append(" " + number % 3 + ":" + number / 3 + "-6@" + number);
        }
        for (int number = 21; number < 30; number++) {
            tree.append(" 3:6-6@" + (number < 26 ? 20 : 19));
        }
        dueTree(x, tree.substring(1));
        x = withText("aaaaaaaaaaaaaaaa");
        defined(x, 3, 2);
        defined(x, 0, 11, 10, 10, 10, 10, 1, 20, 23, 23, 23, 2);
        due("parse", x.parse(0, 0), 16);
        tree = new StringBuilder();
        for (int number = 0; number < 17; number++) {
            tree.append(" 0:" + number + "-16@" + number);
        }
        for (int number = 17; number < 30; number++) {
            tree.append(" 3:16-16@" + (16 - (number - 17) / 3));
        }
        dueTree(x, tree.substring(1));
    }

    private static void nodesOfAnEmptyTree() {
        about("promise 9: an empty tree");
        PackratGrammar x = new PackratGrammar();
        dueEmptyTree(x);
        for (int rule = 0; rule < 4; rule++) {
            x.parse(rule, 0);
            dueEmptyTree(x);
        }
        x.insert(0, 97);
        defined(x, 0, 97);
        dueEmptyTree(x);
    }

    private static void nodesAfterEditsAndDefinitions() {
        about("promise 9: later edits and definitions leave the tree");
        for (Supplier<PackratGrammar> state : STATES) {
            String tree = treeOf(state.get());
            PackratGrammar x = state.get();
            int length = textOf(x).length();
            for (int place = 0; place < length; place++) {
                x.change(place, 122);
            }
            dueTree(x, tree);
            x = state.get();
            for (int place = 0; place < length; place++) {
                x.erase(0);
            }
            dueTree(x, tree);
            x.insert(0, 122);
            dueTree(x, tree);
            x = state.get();
            x.define(0);
            for (int rule = 0; rule < 4; rule++) {
                due("define", defined(x, rule, 20 + rule), true);
            }
            dueTree(x, tree);
            for (int rule = 0; rule < 4; rule++) {
                due("define", x.define(rule), true);
            }
            dueTree(x, tree);
        }
    }

    private static void nodeOfNoNumber() {
        about("promise 10: REFUSED if the number is too small or too large");
        for (int what = 0; what < 4; what++) {
            int of = what;
            for (int number : WILD) {
                for (Supplier<PackratGrammar> state : STATES) {
                    dueRefused("node(" + number + ", " + what + ")", state, x -> x.node(number, of));
                }
            }
            for (int beyond = 0; beyond <= 40; beyond++) {
                int far = beyond;
                dueRefused("behind a tree of 0", PackratGrammar::new, x -> x.node(far, of));
                dueRefused("behind a tree of 2", BoundaryTests::small, x -> x.node(2 + far, of));
                dueRefused("behind a tree of 30", BoundaryTests::full, x -> x.node(30 + far, of));
            }
        }
    }

    private static void nodeOfNoWhat() {
        about("promise 10: REFUSED if what is outside 0 .. 3");
        for (int[] list : new int[][] {{-1, 4, 5, 8, 30}, WILD}) {
            for (int what : list) {
                for (Supplier<PackratGrammar> state : STATES) {
                    dueRefused("node(0, " + what + ")", state, x -> x.node(0, what));
                    dueRefused("node(1, " + what + ")", state, x -> x.node(1, what));
                    dueRefused("node(29, " + what + ")", state, x -> x.node(29, what));
                    dueRefused("node(" + what + ", " + what + ")", state, x -> x.node(what, what));
                }
            }
        }
    }

    private static void nodeOfAFullTree() {
        about("promise 10: the first and the last node of a full tree");
        PackratGrammar x = full();
        due("nodes", x.nodes(), 30);
        due("rule of the first", x.node(0, 0), 0);
        due("start of the first", x.node(0, 1), 0);
        due("end of the first", x.node(0, 2), 16);
        due("depth of the first", x.node(0, 3), 0);
        due("rule of the last", x.node(29, 0), 3);
        due("start of the last", x.node(29, 1), 7);
        due("end of the last", x.node(29, 2), 7);
        due("depth of the last", x.node(29, 3), 1);
    }

    private static void nodeOfAShorterTree() {
        about("promise 10: of a kept node");
        PackratGrammar x = full();
        due("a tree of one node", x.parse(1, 0), 5);
        dueTree(x, "1:0-5@0");
        for (int number = 1; number <= 30; number++) {
            for (int what = 0; what < 4; what++) {
                due("a node of the tree before", x.node(number, what), REFUSED);
            }
        }
    }

    private static void refusedParseLeavesTheTree() {
        about("promise 11: parse: when it is REFUSED the tree stays");
        int[][] refused = {{-1, 0}, {4, 0}, {0, -1}, {0, 17}, {-1, -1}, {4, 17}, {Integer.MIN_VALUE, 0},
            {Integer.MAX_VALUE, 0}, {0, Integer.MIN_VALUE}, {0, Integer.MAX_VALUE}};
        for (Supplier<PackratGrammar> state : STATES) {
            for (int[] call : refused) {
                PackratGrammar x = state.get();
                due("parse" + shown(call), x.parse(call[0], call[1]), REFUSED);
                dueTree(x, treeOf(state.get()));
            }
        }
        PackratGrammar x = small();
        due("a place that is none yet", x.parse(0, 4), REFUSED);
        due("nodes", x.nodes(), 2);
        x.erase(2);
        due("a place that is none any more", x.parse(0, 3), REFUSED);
        dueTree(x, treeOf(small()));
    }

    private static void defineLeavesNothingPending() {
        about("promise 11: define: nothing is pending afterwards, whatever it answers");
        int[][] lists = {{}, {97}, {10, 97}, {97, 97}, {3, 97, 1}, {12, 12, 12, 12, 12, 12, 12, 12, 12, 12, 12, 97},
            {97, 97, 97, 97, 97, 97, 97, 97, 97, 97, 97, 97}, {10, 10, 10, 10, 10, 10, 10, 10, 10, 10, 10, 10}};
        for (int[] list : lists) {
            for (int rule : new int[] {-1, 0, 3, 4, Integer.MIN_VALUE, 1 << 30, Integer.MAX_VALUE}) {
                PackratGrammar x = withText("b");
                boolean one = list.length == 0 || list.length == 1 || list.length == 12 && list[11] == 97 && list[0] == 12;
                due("define of " + shown(list), defined(x, rule, list), one && (rule == 0 || rule == 3));
                due("pending", x.put(0, 0, 0, 0), 0);
                due("define of nothing", x.define(2), true);
                due("a new list", x.put(98, 0, 0, 0), 1);
                due("define of the new list", x.define(1), true);
                due("parse", x.parse(1, 0), 1);
                putAll(x, 12, 12, 12, 12, 12, 12, 12, 12, 12, 12, 12);
                due("there is room for 12", x.put(98, 0, 0, 0), 12);
                due("define of 12", x.define(1), true);
                due("parse", x.parse(1, 0), 1);
            }
        }
    }

    private static void language() {
        about("LANGUAGE.md, rule 7: no call may throw or fail to end, for any arguments in any state");
        int[] edges = {-1, 0, 1, 2, 3, 4, 15, 16, 17, 29, 30, 96, 97, 122, 123};
        int[] all = new int[edges.length + WILD.length];
        System.arraycopy(edges, 0, all, 0, edges.length);
        System.arraycopy(WILD, 0, all, edges.length, WILD.length);
        for (Supplier<PackratGrammar> state : STATES) {
            for (int first : all) {
                PackratGrammar x = state.get();
                for (int second : all) {
                    every(x, first, second);
                }
            }
        }
        hardestGrammars();
        longestWayToAnAnswer();
    }

    private static void every(PackratGrammar x, int first, int second) {
        x.put(first, second, first, second);
        x.insert(first, second);
        x.change(first, second);
        x.parse(first, second);
        x.node(first, second);
        x.letter(first);
        x.erase(first);
        x.define(second);
        int count = x.nodes();
        due("at most 30 nodes", count >= 0 && count <= 30, true);
    }

    // Those with the most rounds, the most nodes and the longest ways, over a full text.
    private static void hardestGrammars() {
        int[][] lists = {{12, 12, 12, 12, 12, 12, 12, 12, 12, 12, 12, 97}, {13, 13, 13, 13, 13, 13, 13, 13, 13, 13, 13, 1},
            {12, 13, 12, 13, 12, 13, 12, 13, 12, 13, 12, 21}, {12, 14, 12, 14, 12, 14, 12, 14, 12, 14, 12, 97},
            {16, 16, 16, 16, 16, 16, 16, 16, 16, 16, 16, 97}, {12, 10, 12, 21, 10, 12, 22, 10, 12, 23, 12, 1},
            {10, 12, 97, 10, 12, 97, 10, 12, 97, 10, 12, 97}, {11, 10, 1, 10, 20, 10, 20, 10, 20, 20, 2},
            {10, 14, 21, 10, 14, 22, 10, 14, 23, 10, 1, 20}, {12, 11, 21, 11, 22, 11, 23, 11, 98, 11, 99, 97}};
        for (int[] list : lists) {
            PackratGrammar x = withText("aaaaaaaaaaaaaaaa");
            for (int rule = 0; rule < 4; rule++) {
                defined(x, rule, list);
            }
            for (int place = 0; place <= 16; place++) {
                int got = x.parse(place % 4, place);
                due(shown(list), got == FAILS || got == STUCK || got >= place && got <= 16, true);
                due("nodes", x.nodes() > 0, got >= 0);
            }
        }
    }

    // Without a memory of what was found, each letter would triple the work.
    private static void longestWayToAnAnswer() {
        PackratGrammar x = withText("aaaaaaaaaaaaaaaa");
        defined(x, 0, 11, 21, 11, 22, 11, 23, 2);
        for (int rule = 1; rule < 4; rule++) {
            defined(x, rule, 10, 97, 10, 20, 97 + rule);
        }
        due("no alternative fits", x.parse(0, 0), 0);
        dueTree(x, "0:0-0@0");
        x.change(15, 100);
        due("the last one fits at the end", x.parse(0, 14), 16);
        dueTree(x, "0:14-16@0 3:14-16@1 0:15-15@2");
        due("and nowhere before", x.parse(0, 0), 0);
    }

    // Text "abc"; rule 0 ends with a tree of two nodes, rule 1 is a letter, rule 2 is stuck, rule 3
    // has no expression; two tokens are pending that lack a third.
    private static PackratGrammar small() {
        PackratGrammar x = withText("abc");
        defined(x, 0, 10, 21, 12, 1);
        defined(x, 1, 97);
        defined(x, 2, 22);
        x.parse(0, 0);
        x.put(10, 98, 0, 0);
        return x;
    }

    // 16 letters, four rules of 12 tokens, 12 tokens pending, and a tree of which 30 nodes are kept.
    private static PackratGrammar full() {
        PackratGrammar x = withText("abcdefghijklmnop");
        defined(x, 0, 12, 10, 23, 10, 23, 10, 23, 10, 23, 10, 2, 1);
        defined(x, 1, 10, 97, 10, 98, 10, 99, 10, 100, 10, 101, 15, 102);
        defined(x, 2, 11, 10, 97, 98, 11, 10, 98, 99, 10, 99, 14, 100);
        defined(x, 3, 15, 14, 14, 14, 14, 14, 14, 14, 14, 14, 14, 97);
        x.parse(0, 0);
        putAll(x, 13, 13, 13, 13, 13, 13, 13, 13, 13, 13, 13, 97);
        return x;
    }

    private static PackratGrammar withPending(int count) {
        PackratGrammar x = new PackratGrammar();
        for (int at = 0; at < count; at++) {
            x.put(12, 0, 0, 0);
        }
        return x;
    }

    // All that the state of an object shows: the text, the tree, what the rules do, and last, with
    // a token more if there is room, what the pending list defines.
    private static String answers(PackratGrammar x) {
        return shownState(x) + " pending " + x.put(0, 0, 0, 0) + " " + x.put(1, 0, 0, 0) + " " + x.define(3)
            + outcomes(x, 3);
    }

    private static String shownState(PackratGrammar x) {
        String shown = textOf(x) + " " + treeOf(x);
        for (int rule = 0; rule < 4; rule++) {
            shown += outcomes(x, rule);
        }
        return shown;
    }

    private static String outcomes(PackratGrammar x, int rule) {
        StringBuilder shown = new StringBuilder(" rule " + rule + ":");
        for (int place = 0; place <= 16; place++) {
            shown.append(" " + x.parse(rule, place));
        }
        return shown.toString();
    }

    // A refused call changes nothing: afterwards the object answers like one that never saw it.
    private static void dueRefused(String call, Supplier<PackratGrammar> state, ToIntFunction<PackratGrammar> refused) {
        PackratGrammar x = state.get();
        due(call, refused.applyAsInt(x), REFUSED);
        due("the state after " + call, answers(x), answers(state.get()));
    }

    private static void dueDefinedLike(String call, Supplier<PackratGrammar> state, Function<PackratGrammar, Boolean> define) {
        PackratGrammar x = state.get();
        due(call, define.apply(x), false);
        due("pending after " + call, x.put(0, 0, 0, 0), 0);
        due("the state after " + call, shownState(x), shownState(state.get()));
    }

    private static void dueUndefined(int rule) {
        PackratGrammar x = withText("a");
        for (int each = 0; each < 4; each++) {
            defined(x, each, 97);
        }
        due("define(" + rule + ")", x.define(rule), false);
        for (int each = 0; each < 4; each++) {
            due("parse(" + each + ", 0)", x.parse(each, 0), 1);
        }
    }

    private static void dueNotOneExpression(int... list) {
        for (int rule = 0; rule < 4; rule++) {
            PackratGrammar x = withText("ab");
            for (int each = 0; each < 4; each++) {
                defined(x, each, 10, 97, 98);
            }
            due("define of " + shown(list), defined(x, rule, list), false);
            due("pending after " + shown(list), x.put(0, 0, 0, 0), 0);
            for (int each = 0; each < 4; each++) {
                due("rule " + each + " after " + shown(list), x.parse(each, 0), 2);
            }
            x = withText("ab");
            due("define of " + shown(list), defined(x, rule, list), false);
            due("a rule that had none after " + shown(list), x.parse(rule, 0), FAILS);
            // What an earlier list had behind the end of this one does not make it whole.
            defined(x, rule, 97, 97, 97, 97, 97, 97, 97, 97, 97, 97, 97, 97);
            due("define after 12 letters of " + shown(list), defined(x, rule, list), false);
        }
    }

    // Rule 0 gets the list and is parsed at the place.
    private static void dueWhole(PackratGrammar x, int place, int outcome, String tree, int... list) {
        due("define of " + shown(list), defined(x, 0, list), true);
        due(shown(list) + " at " + place, x.parse(0, place), outcome);
        dueTree(x, tree);
    }

    private static void dueEmptyTree(PackratGrammar x) {
        due("nodes", x.nodes(), 0);
        for (int what = 0; what < 4; what++) {
            due("node(0, " + what + ")", x.node(0, what), REFUSED);
        }
    }
}
