public final class PackratGrammar {
    public static final int REFUSED = -1, FAILS = -2, STUCK = -3;

    private static final int RULES = 4;
    private static final int MOST_TOKENS = 12;
    private static final int MOST_LETTERS = 16;
    private static final int MOST_NODES = 30;
    private static final int PLACES = MOST_LETTERS + 1;

    // The tokens of all rules lie in one array: token t of rule r is in slot r * MOST_TOKENS + t.
    private static final int SLOTS = RULES * MOST_TOKENS;
    private static final int OUTCOMES = SLOTS * PLACES;

    // A rule waiting on the stack has a kept node, and leaves at most one entry for each of its tokens.
    private static final int STACK_SIZE = MOST_NODES * MOST_TOKENS;

    // Far above what 30 kept nodes can need, each with 12 tokens over 17 places.
    private static final int MOST_STEPS = 1000000;

    private static final int FIRST_LETTER = 97, LAST_LETTER = 122;
    private static final int ANY = 1, EMPTY = 2, RANGE = 3;
    private static final int SEQUENCE = 10, CHOICE = 11;
    private static final int MANY = 12, SOME = 13, OPTION = 14, AHEAD = 15, NOT_AHEAD = 16;
    private static final int RULE_TOKEN = 20;

    // Where the list breaks off before an expression is whole.
    private static final int BROKEN = -1;

    private final int[] pending = new int[MOST_TOKENS];
    private final int[] pendingAfter = new int[MOST_TOKENS];
    private int pendingCount;

    private final int[] tokens = new int[SLOTS];
    private final int[] after = new int[SLOTS];
    private final int[] ruleSize = new int[RULES];

    private final int[] text = new int[MOST_LETTERS];
    private int length;

    private final int[] outcomes = new int[OUTCOMES];

    private final int[] nodeRule = new int[MOST_NODES];
    private final int[] nodeStart = new int[MOST_NODES];
    private final int[] nodeEnd = new int[MOST_NODES];
    private final int[] nodeDepth = new int[MOST_NODES];
    private int nodeCount;

    private final int[] stackSlot = new int[STACK_SIZE];
    private final int[] stackPlace = new int[STACK_SIZE];
    private final int[] stackDepth = new int[STACK_SIZE];
    private int stackCount;

    public PackratGrammar() {
        pendingCount = 0;
        length = 0;
        nodeCount = 0;
        stackCount = 0;
    }

    public int put(int a, int b, int c, int d) {
        if (!mayBePut(a) || !mayBePut(b) || !mayBePut(c) || !mayBePut(d)) {
            return REFUSED;
        }
        int added = (a != 0 ? 1 : 0) + (b != 0 ? 1 : 0) + (c != 0 ? 1 : 0) + (d != 0 ? 1 : 0);
        if (pendingCount + added > MOST_TOKENS) {
            return REFUSED;
        }
        addPending(a);
        addPending(b);
        addPending(c);
        addPending(d);
        return pendingCount;
    }

    public boolean define(int rule) {
        boolean fits = isRule(rule) && (pendingCount == 0 || pendingIsOneExpression());
        if (fits) {
            takePending(rule);
        }
        pendingCount = 0;
        return fits;
    }

    public int insert(int place, int letter) {
        if (place < 0 || place > length || !isLetter(letter) || length >= MOST_LETTERS) {
            return REFUSED;
        }
        for (int at = length; at > place; at--) {
            text[at] = text[at - 1];
        }
        text[place] = letter;
        length++;
        return length;
    }

    public int erase(int place) {
        if (!hasLetter(place)) {
            return REFUSED;
        }
        length--;
        for (int at = place; at < length; at++) {
            text[at] = text[at + 1];
        }
        return length;
    }

    public int change(int place, int letter) {
        if (!hasLetter(place) || !isLetter(letter)) {
            return REFUSED;
        }
        int old = text[place];
        text[place] = letter;
        return old;
    }

    public int letter(int place) {
        return hasLetter(place) ? text[place] : REFUSED;
    }

    public int parse(int rule, int place) {
        if (!isRule(rule) || place < 0 || place > length) {
            return REFUSED;
        }
        settleOutcomes();
        nodeCount = 0;
        int outcome = ruleOutcome(rule, place);
        if (outcome >= 0) {
            buildTree(rule, place);
        }
        return outcome;
    }

    public int nodes() {
        return nodeCount;
    }

    public int node(int number, int what) {
        if (number < 0 || number >= nodeCount) {
            return REFUSED;
        }
        switch (what) {
            case 0:
                return nodeRule[number];
            case 1:
                return nodeStart[number];
            case 2:
                return nodeEnd[number];
            case 3:
                return nodeDepth[number];
            default:
                return REFUSED;
        }
    }

    private static boolean isRule(int rule) {
        return rule >= 0 && rule < RULES;
    }

    private static boolean isLetter(int code) {
        return code >= FIRST_LETTER && code <= LAST_LETTER;
    }

    private static boolean isRuleToken(int token) {
        return token >= RULE_TOKEN && token < RULE_TOKEN + RULES;
    }

    private static boolean mayBePut(int token) {
        return token == 0 || isLetter(token) || isRuleToken(token)
            || (token >= ANY && token <= RANGE) || (token >= SEQUENCE && token <= NOT_AHEAD);
    }

    private boolean hasLetter(int place) {
        return place >= 0 && place < length;
    }

    private void addPending(int token) {
        if (token != 0 && pendingCount < MOST_TOKENS) {
            pending[pendingCount] = token;
            pendingCount++;
        }
    }

    // From the last token back, so that the parts of an expression are measured before the whole.
    private boolean pendingIsOneExpression() {
        for (int at = pendingCount - 1; at >= 0; at--) {
            pendingAfter[at] = measure(at);
        }
        return pendingAfter[0] == pendingCount;
    }

    private int measure(int at) {
        int token = pending[at];
        if (token == RANGE) {
            return rangeIsWhole(at) ? at + 3 : BROKEN;
        }
        if (token == SEQUENCE || token == CHOICE) {
            int second = afterPart(at + 1);
            return afterPart(second);
        }
        if (token >= MANY && token <= NOT_AHEAD) {
            return afterPart(at + 1);
        }
        return at + 1;
    }

    private boolean rangeIsWhole(int at) {
        return at + 2 < pendingCount && isLetter(pending[at + 1]) && isLetter(pending[at + 2]);
    }

    private int afterPart(int at) {
        return at >= 0 && at < pendingCount ? pendingAfter[at] : BROKEN;
    }

    private void takePending(int rule) {
        int first = rule * MOST_TOKENS;
        for (int at = 0; at < pendingCount; at++) {
            tokens[first + at] = pending[at];
            after[first + at] = first + pendingAfter[at];
        }
        ruleSize[rule] = pendingCount;
    }

    // Nothing looks back in the text, so the places are settled from the last one to the first.
    // At each place every round but the last settles a slot more, so SLOTS + 1 rounds are enough;
    // what is then still unsettled follows from nothing and is stuck.
    private void settleOutcomes() {
        for (int at = 0; at < OUTCOMES; at++) {
            outcomes[at] = STUCK;
        }
        for (int place = length; place >= 0; place--) {
            boolean settledMore = true;
            for (int round = 0; settledMore && round <= SLOTS; round++) {
                settledMore = settleRound(place);
            }
        }
    }

    private boolean settleRound(int place) {
        boolean settledMore = false;
        for (int rule = RULES - 1; rule >= 0; rule--) {
            for (int at = ruleSize[rule] - 1; at >= 0; at--) {
                int slot = rule * MOST_TOKENS + at;
                if (outcomeAt(slot, place) == STUCK) {
                    int outcome = deriveOutcome(slot, place);
                    outcomes[slot * PLACES + place] = outcome;
                    settledMore = settledMore || outcome != STUCK;
                }
            }
        }
        return settledMore;
    }

    private int outcomeAt(int slot, int place) {
        boolean known = slot >= 0 && slot < SLOTS && place >= 0 && place < PLACES;
        return known ? outcomes[slot * PLACES + place] : STUCK;
    }

    private int ruleOutcome(int rule, int place) {
        return ruleSize[rule] == 0 ? FAILS : outcomeAt(rule * MOST_TOKENS, place);
    }

    private int deriveOutcome(int slot, int place) {
        int token = tokens[slot];
        if (isRuleToken(token)) {
            return ruleOutcome(token - RULE_TOKEN, place);
        }
        switch (token) {
            case EMPTY:
                return place;
            case SEQUENCE:
                return sequenceOutcome(slot, place);
            case CHOICE:
                return choiceOutcome(slot, place);
            case MANY:
            case SOME:
                return repeatOutcome(slot, place);
            case OPTION:
            case AHEAD:
            case NOT_AHEAD:
                return optionOrAheadOutcome(slot, place);
            default:
                return letterIsMeant(slot, place) ? place + 1 : FAILS;
        }
    }

    private boolean letterIsMeant(int slot, int place) {
        if (!hasLetter(place)) {
            return false;
        }
        int found = text[place];
        int token = tokens[slot];
        if (token == RANGE) {
            return slot + 2 < SLOTS && found >= tokens[slot + 1] && found <= tokens[slot + 2];
        }
        return token == ANY || token == found;
    }

    private int sequenceOutcome(int slot, int place) {
        int first = outcomeAt(slot + 1, place);
        int second = secondPart(slot);
        return first >= 0 ? outcomeAt(second, first) : first;
    }

    private int choiceOutcome(int slot, int place) {
        int first = outcomeAt(slot + 1, place);
        int second = secondPart(slot);
        return first == FAILS ? outcomeAt(second, place) : first;
    }

    private int secondPart(int slot) {
        return slot + 1 < SLOTS ? after[slot + 1] : SLOTS;
    }

    // What "as often as possible" does after a round of "at least once" is what the latter itself
    // does there, but that it ends where the latter fails: so one line of outcomes serves both.
    private int repeatOutcome(int slot, int place) {
        int round = outcomeAt(slot + 1, place);
        if (round == FAILS) {
            return tokens[slot] == MANY ? place : FAILS;
        }
        if (round == STUCK || round == place) {
            return round;
        }
        int rest = outcomeAt(slot, round);
        return rest == FAILS ? round : rest;
    }

    private int optionOrAheadOutcome(int slot, int place) {
        int token = tokens[slot];
        int part = outcomeAt(slot + 1, place);
        if (part == STUCK) {
            return STUCK;
        }
        if (part == FAILS) {
            return token == AHEAD ? FAILS : place;
        }
        if (token == OPTION) {
            return part;
        }
        return token == AHEAD ? place : FAILS;
    }

    private void buildTree(int rule, int place) {
        stackCount = 0;
        addNode(rule, place, 0);
        for (int step = 0; step < MOST_STEPS && stackCount > 0 && nodeCount < MOST_NODES; step++) {
            stackCount--;
            expand(stackSlot[stackCount], stackPlace[stackCount], stackDepth[stackCount]);
        }
    }

    private void addNode(int rule, int place, int depth) {
        if (nodeCount >= MOST_NODES) {
            return;
        }
        nodeRule[nodeCount] = rule;
        nodeStart[nodeCount] = place;
        nodeEnd[nodeCount] = ruleOutcome(rule, place);
        nodeDepth[nodeCount] = depth;
        nodeCount++;
        if (ruleSize[rule] > 0) {
            push(rule * MOST_TOKENS, place, depth + 1);
        }
    }

    private void push(int slot, int place, int depth) {
        if (stackCount < STACK_SIZE && slot >= 0 && slot < SLOTS) {
            stackSlot[stackCount] = slot;
            stackPlace[stackCount] = place;
            stackDepth[stackCount] = depth;
            stackCount++;
        }
    }

    // Only what ended is expanded, but for the rest of a repetition. The later part is pushed
    // first, so that the earlier one is expanded with all below it before.
    private void expand(int slot, int place, int depth) {
        int token = tokens[slot];
        if (isRuleToken(token)) {
            addNode(token - RULE_TOKEN, place, depth);
            return;
        }
        if (token < SEQUENCE || token > OPTION) {
            return;
        }
        int first = outcomeAt(slot + 1, place);
        int second = secondPart(slot);
        if (token == SEQUENCE) {
            push(second, first, depth);
        }
        if (token == CHOICE && first == FAILS) {
            push(second, place, depth);
        }
        // A round that ends where it began is the last.
        if ((token == MANY || token == SOME) && first > place) {
            push(slot, first, depth);
        }
        if (first >= 0) {
            push(slot + 1, place, depth);
        }
    }
}
