import java.util.ArrayList;
import java.util.HashMap;
import java.util.HashSet;
import java.util.List;
import java.util.Map;
import java.util.Set;

// Long runs of calls on fresh objects, each answer compared with that of a second parser, which
// evaluates by recursion on demand and calls stuck what comes back to itself.
public final class ModelTests {
    private static final int RUNS = 4000;
    private static final int CALLS = 512;

    private static long seed = 20261115L;
    private static int wrong = 0;
    private static final int[] OUTCOMES_SEEN = new int[4];

    public static void main(String[] args) {
        for (int run = 0; run < RUNS && wrong < 10; run++) {
            playRun(run);
        }
        // A run that never met one of the outcomes would show nothing of it.
        for (int kind = 0; kind < 4; kind++) {
            if (OUTCOMES_SEEN[kind] < 1000) {
                wrong++;
                System.out.println("too few parses of kind " + kind + ": " + OUTCOMES_SEEN[kind]);
            }
        }
        System.out.println(wrong == 0 ? "all answers are as due" : wrong + " runs are not as due");
        if (wrong != 0) {
            System.exit(1);
        }
    }

    private static void playRun(int run) {
        PackratGrammar x = new PackratGrammar();
        Model model = new Model();
        List<String> calls = new ArrayList<>();
        int made = 0;
        while (made < CALLS - 8) {
            int[] call = nextCall(model);
            int[] list = call[0] == 9 ? nextExpression() : new int[0];
            for (int at = 0; at < list.length; at += 4) {
                int[] put = {0, part(list, at), part(list, at + 1), part(list, at + 2), part(list, at + 3)};
                made++;
                if (!sameAnswer(run, calls, x, model, put)) {
                    return;
                }
            }
            if (call[0] == 9) {
                call = new int[] {1, call[1], 0, 0, 0};
            }
            made++;
            if (!sameAnswer(run, calls, x, model, call)) {
                return;
            }
            // Looking at a tree takes calls of its own, so it is done on a share of the parses.
            if (call[0] == 6 && pick(4) == 0) {
                for (int number = 0; number < 30 && made < CALLS - 8; number++) {
                    for (int what = 0; what < 4; what++) {
                        made++;
                        if (!sameAnswer(run, calls, x, model, new int[] {8, number, what, 0, 0})) {
                            return;
                        }
                    }
                    if (number >= model.nodes()) {
                        break;
                    }
                }
            }
        }
        // Single calls up to the last one for which something is promised.
        for (; made < CALLS; made++) {
            int[] call = nextCall(model);
            if (!sameAnswer(run, calls, x, model, call[0] == 9 ? new int[] {7, 0, 0, 0, 0} : call)) {
                return;
            }
        }
    }

    private static int part(int[] list, int at) {
        return at < list.length ? list[at] : 0;
    }

    private static boolean sameAnswer(int run, List<String> calls, PackratGrammar x, Model model, int[] call) {
        calls.add(java.util.Arrays.toString(call));
        int got = answerOf(x, call);
        int want = model.answer(call);
        if (call[0] == 6) {
            OUTCOMES_SEEN[got >= 0 ? 0 : -got]++;
        }
        if (got != want) {
            wrong++;
            System.out.println("run " + run + " answered " + got + ", due is " + want + " after " + calls);
        }
        return got == want;
    }

    private static int answerOf(PackratGrammar x, int[] call) {
        switch (call[0]) {
            case 0: return x.put(call[1], call[2], call[3], call[4]);
            case 1: return x.define(call[1]) ? 1 : 0;
            case 2: return x.insert(call[1], call[2]);
            case 3: return x.erase(call[1]);
            case 4: return x.change(call[1], call[2]);
            case 5: return x.letter(call[1]);
            case 6: return x.parse(call[1], call[2]);
            case 7: return x.nodes();
            default: return x.node(call[1], call[2]);
        }
    }

    // Kind 9 stands for the calls that give a rule a whole expression.
    private static int[] nextCall(Model model) {
        int place = pick(model.text.size() + 3) - 1;
        int letter = pick(20) == 0 ? 95 + pick(30) : 97 + pick(3);
        int rule = pick(20) == 0 ? pick(7) - 1 : pick(4);
        int roll = pick(100);
        if (roll < 3) {
            return new int[] {0, nextToken(), nextToken(), nextToken(), nextToken()};
        }
        if (roll < 5) {
            return new int[] {1, rule, 0, 0, 0};
        }
        if (roll < 20) {
            return new int[] {2, place, letter, 0, 0};
        }
        if (roll < 26) {
            return new int[] {3, place, 0, 0, 0};
        }
        if (roll < 33) {
            return new int[] {4, place, letter, 0, 0};
        }
        if (roll < 36) {
            return new int[] {5, place, 0, 0, 0};
        }
        if (roll < 70) {
            return new int[] {6, rule, place, 0, 0};
        }
        if (roll < 76) {
            return new int[] {7, 0, 0, 0, 0};
        }
        if (roll < 82) {
            return new int[] {8, pick(33) - 1, pick(6) - 1, 0, 0};
        }
        return new int[] {9, rule, 0, 0, 0};
    }

    private static int nextToken() {
        int[] some = {0, 0, 97, 98, 1, 2, 3, 10, 11, 12, 13, 14, 15, 16, 20, 21, 22, 23, 97, 122};
        return pick(40) == 0 ? pick(130) - 2 : some[pick(some.length)];
    }

    private static int[] nextExpression() {
        List<Integer> list = new ArrayList<>();
        grow(list, 1 + pick(12));
        int[] tokens = new int[list.size()];
        for (int at = 0; at < tokens.length; at++) {
            tokens[at] = list.get(at);
        }
        return tokens;
    }

    // Adds one expression of at most this many tokens.
    private static void grow(List<Integer> list, int most) {
        int roll = pick(10);
        if (most >= 3 && roll < 6) {
            int first = 1 + pick(most - 2);
            list.add(10 + pick(2));
            int before = list.size();
            grow(list, first);
            grow(list, most - 1 - (list.size() - before));
        } else if (most >= 2 && roll < 9) {
            list.add(12 + pick(5));
            grow(list, most - 1);
        } else if (most >= 3 && pick(3) == 0) {
            list.add(3);
            list.add(97 + pick(3));
            list.add(97 + pick(3));
        } else {
            int[] leaves = {97, 97, 98, 98, 99, 1, 2, 20, 21, 22, 23, 20, 21, 22, 23};
            list.add(leaves[pick(leaves.length)]);
        }
    }

    private static int pick(int bound) {
        seed = seed * 6364136223846793005L + 1442695040888963407L;
        return (int) ((seed >>> 33) % bound);
    }

    private static final class Stuck extends RuntimeException {
        private static final long serialVersionUID = 1L;

        Stuck() {
            super(null, null, false, false);
        }
    }

    private static final class Broken extends RuntimeException {
        private static final long serialVersionUID = 1L;
    }

    private static final class Expression {
        int token;
        int low;
        int high;
        Expression first;
        Expression second;
    }

    private static final class Model {
        static final int NONE = -2;
        final List<Integer> pending = new ArrayList<>();
        final List<Integer> text = new ArrayList<>();
        final Expression[] rules = new Expression[4];
        List<int[]> tree = new ArrayList<>();
        final Set<Integer> open = new HashSet<>();
        final Map<Integer, Integer> known = new HashMap<>();
        int reader;

        int answer(int[] call) {
            switch (call[0]) {
                case 0: return put(call);
                case 1: return define(call[1]) ? 1 : 0;
                case 2: return insert(call[1], call[2]);
                case 3: return erase(call[1]);
                case 4: return isPlaced(call[1]) && isLetter(call[2]) ? text.set(call[1], call[2]) : -1;
                case 5: return isPlaced(call[1]) ? text.get(call[1]) : -1;
                case 6: return parse(call[1], call[2]);
                case 7: return nodes();
                default: return node(call[1], call[2]);
            }
        }

        int put(int[] call) {
            List<Integer> next = new ArrayList<>(pending);
            for (int at = 1; at <= 4; at++) {
                int token = call[at];
                boolean isToken = isLetter(token) || List.of(1, 2, 3, 10, 11, 12, 13, 14, 15, 16, 20, 21, 22, 23).contains(token);
                if (token != 0 && !isToken) {
                    return -1;
                }
                if (token != 0) {
                    next.add(token);
                }
            }
            if (next.size() > 12) {
                return -1;
            }
            pending.clear();
            pending.addAll(next);
            return pending.size();
        }

        boolean define(int rule) {
            List<Integer> list = new ArrayList<>(pending);
            pending.clear();
            if (rule < 0 || rule > 3) {
                return false;
            }
            if (list.isEmpty()) {
                rules[rule] = null;
                return true;
            }
            try {
                reader = 0;
                Expression whole = read(list);
                if (reader != list.size()) {
                    return false;
                }
                rules[rule] = whole;
                return true;
            } catch (Broken broken) {
                return false;
            }
        }

        Expression read(List<Integer> list) {
            Expression made = new Expression();
            made.token = take(list);
            if (made.token == 3) {
                made.low = takeLetter(list);
                made.high = takeLetter(list);
            } else if (made.token >= 10 && made.token <= 16) {
                made.first = read(list);
                made.second = made.token <= 11 ? read(list) : null;
            }
            return made;
        }

        int take(List<Integer> list) {
            if (reader >= list.size()) {
                throw new Broken();
            }
            return list.get(reader++);
        }

        int takeLetter(List<Integer> list) {
            int token = take(list);
            if (!isLetter(token)) {
                throw new Broken();
            }
            return token;
        }

        int insert(int place, int letter) {
            if (place < 0 || place > text.size() || !isLetter(letter) || text.size() == 16) {
                return -1;
            }
            text.add(place, letter);
            return text.size();
        }

        int erase(int place) {
            if (!isPlaced(place)) {
                return -1;
            }
            text.remove(place);
            return text.size();
        }

        boolean isPlaced(int place) {
            return place >= 0 && place < text.size();
        }

        boolean isLetter(int letter) {
            return letter >= 'a' && letter <= 'z';
        }

        int parse(int rule, int place) {
            if (rule < 0 || rule > 3 || place < 0 || place > text.size()) {
                return -1;
            }
            open.clear();
            known.clear();
            tree = new ArrayList<>();
            try {
                int end = ruleEnd(rule, place);
                if (end != NONE) {
                    ruleTree(rule, place, 0);
                }
                return end;
            } catch (Stuck stuck) {
                return -3;
            }
        }

        int nodes() {
            return Math.min(30, tree.size());
        }

        int node(int number, int what) {
            return number < 0 || number >= nodes() || what < 0 || what > 3 ? -1 : tree.get(number)[what];
        }

        int ruleEnd(int rule, int place) {
            if (rules[rule] == null) {
                return NONE;
            }
            int key = rule * 100 + place;
            if (known.containsKey(key)) {
                return known.get(key);
            }
            if (!open.add(key)) {
                throw new Stuck();
            }
            int end = end(rules[rule], place);
            open.remove(key);
            known.put(key, end);
            return end;
        }

        int end(Expression e, int i) {
            int found = i < text.size() ? text.get(i) : -1;
            int a;
            switch (e.token) {
                case 1: return found >= 0 ? i + 1 : NONE;
                case 2: return i;
                case 3: return found >= e.low && found <= e.high ? i + 1 : NONE;
                case 10: a = end(e.first, i); return a == NONE ? NONE : end(e.second, a);
                case 11: a = end(e.first, i); return a == NONE ? end(e.second, i) : a;
                case 12: return manyEnd(e.first, i);
                case 13: a = end(e.first, i); return a == NONE ? NONE : manyEnd(e.first, a);
                case 14: a = end(e.first, i); return a == NONE ? i : a;
                case 15: return end(e.first, i) == NONE ? NONE : i;
                case 16: return end(e.first, i) == NONE ? i : NONE;
                case 20: case 21: case 22: case 23: return ruleEnd(e.token - 20, i);
                default: return found == e.token ? i + 1 : NONE;
            }
        }

        int manyEnd(Expression part, int i) {
            int a = end(part, i);
            return a == NONE || a == i ? i : manyEnd(part, a);
        }

        void ruleTree(int rule, int place, int depth) {
            if (tree.size() < 30) {
                tree.add(new int[] {rule, place, ruleEnd(rule, place), depth});
                partsTree(rules[rule], place, depth + 1);
            }
        }

        // Only called where the expression ends.
        void partsTree(Expression e, int i, int depth) {
            switch (e.token) {
                case 10:
                    partsTree(e.first, i, depth);
                    partsTree(e.second, end(e.first, i), depth);
                    break;
                case 11:
                    partsTree(end(e.first, i) == NONE ? e.second : e.first, i, depth);
                    break;
                case 12:
                case 13:
                    int from = i;
                    int to = end(e.first, from);
                    while (to != NONE) {
                        partsTree(e.first, from, depth);
                        if (to == from) {
                            break;
                        }
                        from = to;
                        to = end(e.first, from);
                    }
                    break;
                case 14:
                    if (end(e.first, i) != NONE) {
                        partsTree(e.first, i, depth);
                    }
                    break;
                case 20: case 21: case 22: case 23:
                    ruleTree(e.token - 20, i, depth);
                    break;
                default:
                    break;
            }
        }
    }
}
