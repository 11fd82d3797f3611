/** Judges formulas with three truth values. */
public final class ThreeValued {
    public static final int NONE = -1;

    private static final int TRUE = 2;
    private static final int TRUTH_VALUES = 3;
    private static final int LETTERS = 4;
    private static final int ASSIGNMENTS = 81;

    // Logic 0 needs no name: it is what remains where 1 and 2 differ from it.
    private static final int LOGIC_1 = 1;
    private static final int LOGIC_2 = 2;
    private static final int LOGICS = 3;

    private static final int NOT = 0;
    private static final int AND = 1;
    private static final int OR = 2;
    private static final int FIRST_LETTER = 4;
    private static final int TOKEN_KINDS = 8;

    private static final int A = 0;
    private static final int B = 1;
    private static final int FORMULAS = 2;
    private static final int MOST_TOKENS = 9;
    private static final int TOKEN_PLACES = 18;

    // A truth value fits in two bits, so the at most nine values that wait
    // during a judgement fit in one int, and no index can run out of bounds.
    private static final int VALUE_BITS = 2;
    private static final int VALUE_MASK = 3;

    private final int[] tokens = new int[TOKEN_PLACES];
    private final int[] counts = new int[FORMULAS];
    private int currentLogic;

    public ThreeValued(int logic) {
        if (logic < 0) {
            currentLogic = 0;
        } else if (logic >= LOGICS) {
            currentLogic = LOGICS - 1;
        } else {
            currentLogic = logic;
        }
    }

    public int logic() {
        return currentLogic;
    }

    public boolean setLogic(int logic) {
        if (logic < 0 || logic >= LOGICS) {
            return false;
        }
        currentLogic = logic;
        return true;
    }

    public int feed(int which, int token) {
        if (!isFormula(which) || token < 0 || token >= TOKEN_KINDS) {
            return NONE;
        }
        if (complete(which) || counts[which] >= MOST_TOKENS) {
            return NONE;
        }
        tokens[which * MOST_TOKENS + counts[which]] = token;
        counts[which]++;
        return counts[which];
    }

    public int back(int which) {
        if (!isFormula(which) || counts[which] == 0) {
            return NONE;
        }
        counts[which]--;
        return tokens[which * MOST_TOKENS + counts[which]];
    }

    public boolean complete(int which) {
        return isFormula(which) && missingFormulas(which) == 0;
    }

    public int value(int which, int assignment) {
        if (!complete(which) || assignment < 0 || assignment >= ASSIGNMENTS) {
            return NONE;
        }
        return judge(which, assignment);
    }

    public int find(int which, int v) {
        if (!complete(which) || !isTruthValue(v)) {
            return NONE;
        }
        for (int assignment = 0; assignment < ASSIGNMENTS; assignment++) {
            if (judge(which, assignment) == v) {
                return assignment;
            }
        }
        return NONE;
    }

    public int values(int which) {
        if (!complete(which)) {
            return 0;
        }
        int seen = 0;
        for (int assignment = 0; assignment < ASSIGNMENTS; assignment++) {
            seen |= 1 << judge(which, assignment);
        }
        return seen;
    }

    public boolean valid(int which) {
        return values(which) == 1 << TRUE;
    }

    public int findBoth(int v, int w) {
        if (!bothComplete() || !isTruthValue(v) || !isTruthValue(w)) {
            return NONE;
        }
        for (int assignment = 0; assignment < ASSIGNMENTS; assignment++) {
            if (judge(A, assignment) == v && judge(B, assignment) == w) {
                return assignment;
            }
        }
        return NONE;
    }

    public boolean entails() {
        if (!bothComplete()) {
            return false;
        }
        for (int assignment = 0; assignment < ASSIGNMENTS; assignment++) {
            if (judge(A, assignment) == TRUE && judge(B, assignment) != TRUE) {
                return false;
            }
        }
        return true;
    }

    public boolean below() {
        if (!bothComplete()) {
            return false;
        }
        for (int assignment = 0; assignment < ASSIGNMENTS; assignment++) {
            if (judge(A, assignment) > judge(B, assignment)) {
                return false;
            }
        }
        return true;
    }

    public boolean alike() {
        if (!bothComplete()) {
            return false;
        }
        for (int assignment = 0; assignment < ASSIGNMENTS; assignment++) {
            if (judge(A, assignment) != judge(B, assignment)) {
                return false;
            }
        }
        return true;
    }

    public int findApart(int which, int l) {
        if (!complete(which) || l < 0 || l >= LETTERS) {
            return NONE;
        }
        for (int assignment = 0; assignment < ASSIGNMENTS; assignment++) {
            if (judge(which, assignment) != letterValue(l, assignment)) {
                return assignment;
            }
        }
        return NONE;
    }

    private boolean isFormula(int which) {
        return which == A || which == B;
    }

    private boolean isTruthValue(int v) {
        return v >= 0 && v < TRUTH_VALUES;
    }

    private boolean bothComplete() {
        return complete(A) && complete(B);
    }

    /** How many formulas must still follow the tokens to make them one whole. */
    private int missingFormulas(int which) {
        int missing = 1;
        for (int i = 0; i < counts[which]; i++) {
            int token = tokens[which * MOST_TOKENS + i];
            if (token >= FIRST_LETTER) {
                missing--;
            } else if (token != NOT) {
                missing++;
            }
        }
        return missing;
    }

    /** The value of a complete formula; the caller has looked at the arguments. */
    private int judge(int which, int assignment) {
        int waiting = 0;
        // From the last token to the first: parts are judged before what is applied to them.
        for (int i = counts[which] - 1; i >= 0; i--) {
            int token = tokens[which * MOST_TOKENS + i];
            if (token >= FIRST_LETTER) {
                waiting = waiting << VALUE_BITS | letterValue(token - FIRST_LETTER, assignment);
            } else {
                waiting = applied(token, waiting);
            }
        }
        return waiting & VALUE_MASK;
    }

    /** The waiting values after a connective has taken its own and left its answer. */
    private int applied(int token, int waiting) {
        int x = waiting & VALUE_MASK;
        int others = waiting >> VALUE_BITS;
        if (token == NOT) {
            return others << VALUE_BITS | negated(x);
        }
        int y = others & VALUE_MASK;
        int rest = others >> VALUE_BITS;
        int answer;
        if (token == AND) {
            answer = x < y ? x : y;
        } else if (token == OR) {
            answer = x > y ? x : y;
        } else {
            answer = implied(x, y);
        }
        return rest << VALUE_BITS | answer;
    }

    private int negated(int x) {
        if (currentLogic == LOGIC_2) {
            return x == 0 ? TRUE : 0;
        }
        return TRUE - x;
    }

    private int implied(int x, int y) {
        if (currentLogic == LOGIC_2) {
            return x <= y ? TRUE : y;
        }
        int notX = TRUE - x;
        if (currentLogic == LOGIC_1) {
            return notX > y ? notX : y;
        }
        int sum = notX + y;
        return sum < TRUE ? sum : TRUE;
    }

    private int letterValue(int letter, int assignment) {
        int rest = assignment;
        for (int i = 0; i < letter; i++) {
            rest /= TRUTH_VALUES;
        }
        return rest % TRUTH_VALUES;
    }
}
