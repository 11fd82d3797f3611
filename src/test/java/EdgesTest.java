import java.lang.reflect.Method;
import java.util.ArrayList;
import java.util.Comparator;
import java.util.List;

/**
 * One method for each boundary case in the document's sentences: the first and the
 * last of a range, empty and full, none and every. What is refused, and that it
 * changes nothing, is in NothingChangesTest.
 */
public final class EdgesTest {
    private static final int NONE = -1;
    private static final int LEAST = Integer.MIN_VALUE;
    private static final int MOST = Integer.MAX_VALUE;
    private static final int A = 0;
    private static final int B = 1;

    private static final int NOT = 0;
    private static final int AND = 1;
    private static final int OR = 2;
    private static final int IMPLIES = 3;
    private static final int P = 4;
    private static final int Q = 5;
    private static final int R = 6;
    private static final int S = 7;

    private static final int[] NO_TOKENS = {};
    private static final int[] ALL = {AND, P, AND, Q, AND, R, S};
    private static final int[] NOT_ALL = {NOT, AND, P, AND, Q, AND, R, S};
    private static final int[] NO_LETTER = {NOT, OR, P, OR, Q, OR, R, S};
    private static final int[] SOME_LETTER = {NOT, NOT, OR, P, OR, Q, OR, R, S};
    private static final int[] ALWAYS = {IMPLIES, P, P};
    private static final int[] NEVER = {AND, P, NOT, P};
    private static final int[] NINE_UNFINISHED = {OR, IMPLIES, AND, P, NOT, Q, R, NOT, NOT};
    private static final int[] NINE_WHOLE = {OR, IMPLIES, P, NOT, Q, AND, R, NOT, S};

    private static String running = "";
    private static int wrong = 0;
    private static int checks = 0;

    public static void main(String[] args) throws Exception {
        List<Method> tests = new ArrayList<>();
        for (Method method : EdgesTest.class.getDeclaredMethods()) {
            if (method.getName().matches("(use|terms|promise)[A-Z0-9].*")) {
                tests.add(method);
            }
        }
        tests.sort(Comparator.comparing(Method::getName));
        for (Method test : tests) {
            running = test.getName();
            int before = checks;
            test.invoke(null);
            if (checks == before) {
                fault("nothing was looked at");
            }
        }
        System.out.println(tests.size() + " edges, "
                + (wrong == 0 ? "all as due" : wrong + " answers are not as due"));
        if (wrong != 0) {
            System.exit(1);
        }
    }

    private static void fault(String text) {
        wrong++;
        System.out.println(running + ": " + text);
    }

    private static void due(String call, int got, int want) {
        checks++;
        if (got != want) {
            fault(call + " answered " + got + ", due is " + want);
        }
    }

    private static void due(String call, boolean got, boolean want) {
        checks++;
        if (got != want) {
            fault(call + " answered " + got + ", due is " + want);
        }
    }

    private static int[] tokens(int... list) {
        return list;
    }

    private static ThreeValued with(int logic, int[] a, int[] b) {
        ThreeValued x = new ThreeValued(logic);
        for (int token : a) {
            x.feed(A, token);
        }
        for (int token : b) {
            x.feed(B, token);
        }
        return x;
    }

    /** The list as formula which, the other one without tokens. */
    private static ThreeValued alone(int logic, int which, int... list) {
        return which == A ? with(logic, list, NO_TOKENS) : with(logic, NO_TOKENS, list);
    }

    /** Takes the tokens away, so it comes last for a formula. */
    private static void dueTokens(ThreeValued x, int which, int... list) {
        for (int i = list.length - 1; i >= 0; i--) {
            due("back(" + which + ") at token " + i, x.back(which), list[i]);
        }
        due("back(" + which + ") without tokens", x.back(which), NONE);
    }

    private static void dueLetters(int assignment, int p, int q, int r, int s) {
        int[] want = {p, q, r, s};
        for (int letter = 0; letter < 4; letter++) {
            ThreeValued x = with(0, tokens(P + letter), tokens(P + letter));
            due("letter " + letter + " at " + assignment, x.value(A, assignment), want[letter]);
            due("letter " + letter + " at " + assignment + " as B", x.value(B, assignment), want[letter]);
        }
    }

    private static void dueNot(int logic, int p, int want) {
        due("NOT " + p, alone(logic, A, NOT, P).value(A, p), want);
        due("NOT " + p + " as B", alone(logic, B, NOT, P).value(B, p), want);
    }

    private static void dueOfTwo(int logic, int connective, int p, int q, int want) {
        String call = "connective " + connective + " of " + p + " and " + q + " in logic " + logic;
        due(call, alone(logic, A, connective, P, Q).value(A, p + 3 * q), want);
        due(call + " as B", alone(logic, B, connective, P, Q).value(B, p + 3 * q), want);
    }

    /** All that is asked of which logic an object judges by. */
    private static void dueLogic(ThreeValued x, int logic) {
        due("logic()", x.logic(), logic);
        x.feed(A, NOT);
        x.feed(A, P);
        due("NOT 1 in logic " + logic, x.value(A, 1), logic == 2 ? 0 : 1);
        x.feed(B, IMPLIES);
        x.feed(B, P);
        x.feed(B, Q);
        due("1 IMPLIES 1 in logic " + logic, x.value(B, 4), logic == 1 ? 1 : 2);
        due("1 IMPLIES 0 in logic " + logic, x.value(B, 1), logic == 2 ? 0 : 1);
    }

    // What it is: at most 512 calls

    private static void useCall512Judges() {
        ThreeValued x = new ThreeValued(2);
        for (int call = 1; call <= 255; call++) {
            due("call " + (2 * call - 1) + ", feed(1, 6)", x.feed(B, R), 1);
            due("call " + 2 * call + ", back(1)", x.back(B), R);
        }
        due("call 511, feed(1, 7)", x.feed(B, S), 1);
        due("call 512, find(1, 2)", x.find(B, 2), 54);
    }

    private static void useCall512AfterRefusedBacks() {
        ThreeValued x = new ThreeValued(0);
        for (int call = 1; call <= 511; call++) {
            due("call " + call + ", back(0)", x.back(A), NONE);
        }
        due("call 512, feed(0, 4)", x.feed(A, P), 1);
    }

    private static void useCall512AfterRefusedFeeds() {
        ThreeValued x = new ThreeValued(0);
        for (int call = 1; call <= 9; call++) {
            due("call " + call + ", feed(0, 0)", x.feed(A, NOT), call);
        }
        for (int call = 10; call <= 511; call++) {
            due("call " + call + ", feed(0, 4)", x.feed(A, P), NONE);
        }
        due("call 512, back(0)", x.back(A), NOT);
    }

    // Terms: assignments

    private static void termsFirstAssignment() {
        dueLetters(0, 0, 0, 0, 0);
    }

    private static void termsLastAssignment() {
        dueLetters(80, 2, 2, 2, 2);
    }

    private static void termsMiddleAssignment() {
        dueLetters(40, 1, 1, 1, 1);
    }

    private static void termsLetter0WrapsIntoLetter1() {
        dueLetters(2, 2, 0, 0, 0);
        dueLetters(3, 0, 1, 0, 0);
        dueLetters(5, 2, 1, 0, 0);
        dueLetters(6, 0, 2, 0, 0);
    }

    private static void termsLetter1WrapsIntoLetter2() {
        dueLetters(8, 2, 2, 0, 0);
        dueLetters(9, 0, 0, 1, 0);
        dueLetters(17, 2, 2, 1, 0);
        dueLetters(18, 0, 0, 2, 0);
    }

    private static void termsLetter2WrapsIntoLetter3() {
        dueLetters(26, 2, 2, 2, 0);
        dueLetters(27, 0, 0, 0, 1);
        dueLetters(53, 2, 2, 2, 1);
        dueLetters(54, 0, 0, 0, 2);
    }

    // Terms: connectives

    private static void termsNotInLogic0() {
        dueNot(0, 0, 2);
        dueNot(0, 1, 1);
        dueNot(0, 2, 0);
    }

    private static void termsNotInLogic1() {
        dueNot(1, 0, 2);
        dueNot(1, 1, 1);
        dueNot(1, 2, 0);
    }

    private static void termsNotInLogic2When0() {
        dueNot(2, 0, 2);
    }

    private static void termsNotInLogic2Else() {
        dueNot(2, 1, 0);
        dueNot(2, 2, 0);
    }

    private static void termsAndOfEqualValues() {
        for (int logic = 0; logic < 3; logic++) {
            for (int v = 0; v < 3; v++) {
                dueOfTwo(logic, AND, v, v, v);
            }
        }
    }

    private static void termsAndIsTheLesser() {
        for (int logic = 0; logic < 3; logic++) {
            dueOfTwo(logic, AND, 0, 1, 0);
            dueOfTwo(logic, AND, 1, 0, 0);
            dueOfTwo(logic, AND, 1, 2, 1);
            dueOfTwo(logic, AND, 2, 1, 1);
            dueOfTwo(logic, AND, 0, 2, 0);
            dueOfTwo(logic, AND, 2, 0, 0);
        }
    }

    private static void termsOrOfEqualValues() {
        for (int logic = 0; logic < 3; logic++) {
            for (int v = 0; v < 3; v++) {
                dueOfTwo(logic, OR, v, v, v);
            }
        }
    }

    private static void termsOrIsTheGreater() {
        for (int logic = 0; logic < 3; logic++) {
            dueOfTwo(logic, OR, 0, 1, 1);
            dueOfTwo(logic, OR, 1, 0, 1);
            dueOfTwo(logic, OR, 1, 2, 2);
            dueOfTwo(logic, OR, 2, 1, 2);
            dueOfTwo(logic, OR, 0, 2, 2);
            dueOfTwo(logic, OR, 2, 0, 2);
        }
    }

    private static void termsImpliesInLogic0Below2() {
        dueOfTwo(0, IMPLIES, 2, 0, 0);
        dueOfTwo(0, IMPLIES, 2, 1, 1);
        dueOfTwo(0, IMPLIES, 1, 0, 1);
    }

    private static void termsImpliesInLogic0Exactly2() {
        dueOfTwo(0, IMPLIES, 0, 0, 2);
        dueOfTwo(0, IMPLIES, 1, 1, 2);
        dueOfTwo(0, IMPLIES, 2, 2, 2);
    }

    private static void termsImpliesInLogic0Above2() {
        dueOfTwo(0, IMPLIES, 0, 1, 2);
        dueOfTwo(0, IMPLIES, 1, 2, 2);
        dueOfTwo(0, IMPLIES, 0, 2, 2);
    }

    private static void termsImpliesInLogic1BothSidesEqual() {
        dueOfTwo(1, IMPLIES, 0, 2, 2);
        dueOfTwo(1, IMPLIES, 1, 1, 1);
        dueOfTwo(1, IMPLIES, 2, 0, 0);
    }

    private static void termsImpliesInLogic1LeftGreater() {
        dueOfTwo(1, IMPLIES, 0, 0, 2);
        dueOfTwo(1, IMPLIES, 0, 1, 2);
        dueOfTwo(1, IMPLIES, 1, 0, 1);
    }

    private static void termsImpliesInLogic1RightGreater() {
        dueOfTwo(1, IMPLIES, 1, 2, 2);
        dueOfTwo(1, IMPLIES, 2, 1, 1);
        dueOfTwo(1, IMPLIES, 2, 2, 2);
    }

    private static void termsImpliesInLogic2Less() {
        dueOfTwo(2, IMPLIES, 0, 1, 2);
        dueOfTwo(2, IMPLIES, 1, 2, 2);
        dueOfTwo(2, IMPLIES, 0, 2, 2);
    }

    private static void termsImpliesInLogic2Equal() {
        dueOfTwo(2, IMPLIES, 0, 0, 2);
        dueOfTwo(2, IMPLIES, 1, 1, 2);
        dueOfTwo(2, IMPLIES, 2, 2, 2);
    }

    private static void termsImpliesInLogic2Else() {
        dueOfTwo(2, IMPLIES, 1, 0, 0);
        dueOfTwo(2, IMPLIES, 2, 0, 0);
        dueOfTwo(2, IMPLIES, 2, 1, 1);
    }

    private static void termsNotOnEitherSide() {
        // P is 0, Q is 1: NOT takes what follows it at once and nothing more.
        due("NOT P AND Q", alone(0, A, AND, NOT, P, Q).value(A, 3), 1);
        due("P OR NOT Q", alone(0, A, OR, P, NOT, Q).value(A, 3), 1);
        due("NOT (P AND Q)", alone(0, B, NOT, AND, P, Q).value(B, 3), 2);
        due("NOT P IMPLIES NOT NOT Q", alone(2, B, IMPLIES, NOT, P, NOT, NOT, Q).value(B, 3), 2);
    }

    // Terms: formulas of one token and of nine

    private static void termsFormulaOfOneToken() {
        for (int letter = P; letter <= S; letter++) {
            ThreeValued x = with(0, tokens(letter), tokens(letter));
            due("complete(0)", x.complete(A), true);
            due("complete(1)", x.complete(B), true);
        }
    }

    private static void termsNineTokensDeepToTheLeft() {
        // P=0 Q=1 R=2 S=1: P>Q 2, >R 2, >S 1, >P 1 in logic 0 (2-1+0).
        int[] list = {IMPLIES, IMPLIES, IMPLIES, IMPLIES, P, Q, R, S, P};
        ThreeValued x = with(0, list, list);
        due("value(0, 48)", x.value(A, 48), 1);
        due("value(1, 48)", x.value(B, 48), 1);
        due("value(0, 80)", x.value(A, 80), 2);
    }

    private static void termsNineTokensDeepToTheRight() {
        // Where Q, R and S are 2, each step to the left keeps the value of P.
        int[] list = {IMPLIES, S, IMPLIES, Q, IMPLIES, R, IMPLIES, S, P};
        ThreeValued x = with(0, list, list);
        for (int p = 0; p < 3; p++) {
            due("value(0, " + (78 + p) + ")", x.value(A, 78 + p), p);
            due("value(1, " + (78 + p) + ")", x.value(B, 78 + p), p);
        }
        // Where S is 1 and P is 0, the two steps from S each add 1.
        due("value(0, 51)", x.value(A, 51), 2);
        due("value(1, 51)", x.value(B, 51), 2);
    }

    private static void termsNineTokensOfOneLetter() {
        int[] eightNots = {NOT, NOT, NOT, NOT, NOT, NOT, NOT, NOT, S};
        due("value(0, 27)", with(0, eightNots, NO_TOKENS).value(A, 27), 1);
        due("value(0, 27) in logic 2", with(2, eightNots, NO_TOKENS).value(A, 27), 2);
        due("value(1, 80)", with(1, NO_TOKENS, eightNots).value(B, 80), 2);
        due("value(1, 26)", with(1, NO_TOKENS, eightNots).value(B, 26), 0);
    }

    // Promise 1: a new object

    private static void promise01LogicMinusOne() {
        dueLogic(new ThreeValued(-1), 0);
    }

    private static void promise01LogicLeastInt() {
        dueLogic(new ThreeValued(LEAST), 0);
        dueLogic(new ThreeValued(LEAST + 1), 0);
        dueLogic(new ThreeValued(LEAST + 2), 0);
    }

    private static void promise01LogicFarBelow() {
        dueLogic(new ThreeValued(-254), 0);
        dueLogic(new ThreeValued(-65534), 0);
    }

    private static void promise01LogicZero() {
        dueLogic(new ThreeValued(0), 0);
    }

    private static void promise01LogicOne() {
        dueLogic(new ThreeValued(1), 1);
    }

    private static void promise01LogicTwo() {
        dueLogic(new ThreeValued(2), 2);
    }

    private static void promise01LogicThree() {
        dueLogic(new ThreeValued(3), 2);
    }

    private static void promise01LogicMostInt() {
        dueLogic(new ThreeValued(MOST), 2);
        dueLogic(new ThreeValued(MOST - 1), 2);
    }

    private static void promise01LogicFarAbove() {
        dueLogic(new ThreeValued(256), 2);
        dueLogic(new ThreeValued(65536), 2);
    }

    private static void promise01NoTokens() {
        for (int logic : new int[] {LEAST, -1, 0, 1, 2, 3, MOST}) {
            for (int which = A; which <= B; which++) {
                ThreeValued x = new ThreeValued(logic);
                due("complete(" + which + ")", x.complete(which), false);
                due("back(" + which + ")", x.back(which), NONE);
                due("first feed(" + which + ", 7)", x.feed(which, S), 1);
                due("back(" + (1 - which) + ")", x.back(1 - which), NONE);
            }
        }
    }

    private static void promise01ObjectsStandAlone() {
        ThreeValued first = with(0, ALL, NEVER);
        ThreeValued second = new ThreeValued(2);
        due("logic() of the first", first.logic(), 0);
        due("back(0) of the second", second.back(A), NONE);
        due("back(1) of the second", second.back(B), NONE);
        dueTokens(first, A, ALL);
        dueTokens(first, B, NEVER);
    }

    // Promise 3: setLogic

    private static void dueSetLogic(int to) {
        for (int from = 0; from < 3; from++) {
            ThreeValued x = new ThreeValued(from);
            due("setLogic(" + to + ") from " + from, x.setLogic(to), true);
            dueLogic(x, to);
            ThreeValued full = with(from, NINE_UNFINISHED, NINE_WHOLE);
            due("setLogic(" + to + ") from " + from, full.setLogic(to), true);
            due("complete(0)", full.complete(A), false);
            due("complete(1)", full.complete(B), true);
            dueTokens(full, A, NINE_UNFINISHED);
            dueTokens(full, B, NINE_WHOLE);
        }
    }

    private static void promise03LogicZero() {
        dueSetLogic(0);
    }

    private static void promise03LogicOne() {
        dueSetLogic(1);
    }

    private static void promise03LogicTwo() {
        dueSetLogic(2);
    }

    private static void promise03BackAndForth() {
        ThreeValued x = with(0, tokens(NOT, P), tokens(IMPLIES, P, P));
        due("value(0, 1) in logic 0", x.value(A, 1), 1);
        x.setLogic(2);
        due("value(0, 1) in logic 2", x.value(A, 1), 0);
        due("value(1, 1) in logic 2", x.value(B, 1), 2);
        x.setLogic(1);
        due("value(0, 1) in logic 1", x.value(A, 1), 1);
        due("value(1, 1) in logic 1", x.value(B, 1), 1);
        x.setLogic(0);
        due("value(1, 1) in logic 0", x.value(B, 1), 2);
    }

    // Promise 4: feed

    private static void promise04LeastToken() {
        for (int which = A; which <= B; which++) {
            ThreeValued x = new ThreeValued(0);
            due("feed(" + which + ", 0)", x.feed(which, 0), 1);
            dueTokens(x, which, 0);
        }
    }

    private static void promise04GreatestToken() {
        for (int which = A; which <= B; which++) {
            ThreeValued x = new ThreeValued(0);
            due("feed(" + which + ", 7)", x.feed(which, 7), 1);
            dueTokens(x, which, 7);
        }
    }

    private static void promise04LastConnectiveAndFirstLetter() {
        for (int which = A; which <= B; which++) {
            ThreeValued x = new ThreeValued(0);
            due("feed(" + which + ", 3)", x.feed(which, 3), 1);
            due("feed(" + which + ", 4)", x.feed(which, 4), 2);
            due("feed(" + which + ", 4) again", x.feed(which, 4), 3);
            due("complete(" + which + ")", x.complete(which), true);
            dueTokens(x, which, 3, 4, 4);
        }
    }

    private static void promise04NinthTokenCompletes() {
        for (int which = A; which <= B; which++) {
            ThreeValued x = new ThreeValued(0);
            for (int i = 0; i < 9; i++) {
                due("complete before token " + (i + 1), x.complete(which), false);
                due("feed of token " + (i + 1), x.feed(which, NINE_WHOLE[i]), i + 1);
            }
            due("complete(" + which + ")", x.complete(which), true);
            dueTokens(x, which, NINE_WHOLE);
        }
    }

    private static void promise04NinthTokenDoesNotComplete() {
        for (int which = A; which <= B; which++) {
            ThreeValued x = new ThreeValued(0);
            for (int i = 0; i < 9; i++) {
                due("feed of token " + (i + 1), x.feed(which, NINE_UNFINISHED[i]), i + 1);
            }
            due("complete(" + which + ")", x.complete(which), false);
            dueTokens(x, which, NINE_UNFINISHED);
        }
    }

    private static void promise04NineTokensOneLetterShort() {
        // A tenth token would complete it, and there is none.
        int[] list = {AND, AND, AND, AND, NOT, P, Q, R, S};
        for (int which = A; which <= B; which++) {
            ThreeValued x = alone(0, which, list);
            due("feed(" + which + ", 4)", x.feed(which, P), NONE);
            due("complete(" + which + ")", x.complete(which), false);
            dueTokens(x, which, list);
        }
    }

    private static void promise04RoomAgainAfterBackFromNine() {
        for (int which = A; which <= B; which++) {
            ThreeValued x = alone(0, which, NINE_UNFINISHED);
            due("feed of a tenth", x.feed(which, P), NONE);
            due("back(" + which + ")", x.back(which), NOT);
            due("feed of a ninth", x.feed(which, P), 9);
            due("complete(" + which + ")", x.complete(which), true);
            due("feed of a tenth again", x.feed(which, P), NONE);
        }
    }

    private static void promise04FullABesideEmptyB() {
        ThreeValued x = with(0, NINE_UNFINISHED, NO_TOKENS);
        due("feed(0, 4)", x.feed(A, P), NONE);
        due("back(1)", x.back(B), NONE);
        due("feed(1, 2)", x.feed(B, OR), 1);
        dueTokens(x, B, OR);
        dueTokens(x, A, NINE_UNFINISHED);
    }

    private static void promise04BothFull() {
        ThreeValued x = with(0, NINE_UNFINISHED, NINE_WHOLE);
        due("feed(0, 4)", x.feed(A, P), NONE);
        due("feed(1, 4)", x.feed(B, P), NONE);
        dueTokens(x, A, NINE_UNFINISHED);
        dueTokens(x, B, NINE_WHOLE);
    }

    private static void promise04CompleteABesideUnfinishedB() {
        ThreeValued x = with(0, tokens(P), tokens(AND));
        due("feed(0, 5)", x.feed(A, Q), NONE);
        due("feed(1, 5)", x.feed(B, Q), 2);
        due("feed(1, 6)", x.feed(B, R), 3);
        due("feed(1, 7)", x.feed(B, S), NONE);
        dueTokens(x, A, P);
        dueTokens(x, B, AND, Q, R);
    }

    private static void promise04FeedInTurns() {
        ThreeValued x = new ThreeValued(0);
        for (int i = 0; i < 9; i++) {
            due("feed to A of token " + (i + 1), x.feed(A, NINE_WHOLE[i]), i + 1);
            due("feed to B of token " + (i + 1), x.feed(B, NINE_UNFINISHED[i]), i + 1);
        }
        dueTokens(x, A, NINE_WHOLE);
        dueTokens(x, B, NINE_UNFINISHED);
    }

    // Promise 5: back

    private static void promise05OnlyToken() {
        for (int which = A; which <= B; which++) {
            for (int token = NOT; token <= S; token++) {
                ThreeValued x = alone(0, which, token);
                due("back(" + which + ")", x.back(which), token);
                due("complete(" + which + ")", x.complete(which), false);
                due("back(" + which + ") again", x.back(which), NONE);
                due("feed(" + which + ", 0)", x.feed(which, NOT), 1);
            }
        }
    }

    private static void promise05NinthToken() {
        for (int which = A; which <= B; which++) {
            ThreeValued x = alone(0, which, NINE_WHOLE);
            due("back(" + which + ")", x.back(which), S);
            due("complete(" + which + ")", x.complete(which), false);
            due("feed(" + which + ", 6)", x.feed(which, R), 9);
            due("complete(" + which + ") again", x.complete(which), true);
        }
    }

    private static void promise05CompleteFormulaIsOpenAgain() {
        for (int which = A; which <= B; which++) {
            ThreeValued x = alone(0, which, NOT, P);
            due("feed(" + which + ", 5)", x.feed(which, Q), NONE);
            due("back(" + which + ")", x.back(which), P);
            due("value(" + which + ", 0)", x.value(which, 0), NONE);
            due("feed(" + which + ", 5)", x.feed(which, Q), 2);
            due("value(" + which + ", 3)", x.value(which, 3), 1);
            due("value(" + which + ", 2)", x.value(which, 2), 2);
        }
    }

    private static void promise05EmptyBBesideFullA() {
        ThreeValued x = with(0, NINE_WHOLE, NO_TOKENS);
        due("back(1)", x.back(B), NONE);
        due("complete(0)", x.complete(A), true);
        dueTokens(x, A, NINE_WHOLE);
    }

    private static void promise05EmptyABesideFullB() {
        ThreeValued x = with(0, NO_TOKENS, NINE_WHOLE);
        due("back(0)", x.back(A), NONE);
        due("complete(1)", x.complete(B), true);
        dueTokens(x, B, NINE_WHOLE);
    }

    private static void promise05ManyRefusedBacksThenNineTokens() {
        for (int which = A; which <= B; which++) {
            ThreeValued x = new ThreeValued(0);
            for (int i = 0; i < 20; i++) {
                due("back(" + which + ")", x.back(which), NONE);
            }
            for (int i = 1; i <= 9; i++) {
                due("feed of token " + i, x.feed(which, AND), i);
            }
            due("feed of a tenth", x.feed(which, AND), NONE);
        }
    }

    private static void promise05OtherFormulaAndLogicStay() {
        for (int which = A; which <= B; which++) {
            ThreeValued x = with(1, ALL, ALL);
            due("back(" + which + ")", x.back(which), S);
            due("complete(" + (1 - which) + ")", x.complete(1 - which), true);
            due("logic()", x.logic(), 1);
            dueTokens(x, 1 - which, ALL);
            dueTokens(x, which, AND, P, AND, Q, AND, R);
        }
    }

    // Promise 6: complete

    private static void dueCompleteAtTheLastTokenOnly(int... list) {
        for (int which = A; which <= B; which++) {
            ThreeValued x = new ThreeValued(0);
            for (int token : list) {
                due("complete(" + which + ") too early", x.complete(which), false);
                x.feed(which, token);
            }
            due("complete(" + which + ") at the last token", x.complete(which), true);
            due("complete(" + (1 - which) + ") beside", x.complete(1 - which), false);
            x.back(which);
            due("complete(" + which + ") after back", x.complete(which), false);
        }
    }

    private static void promise06OneLetter() {
        dueCompleteAtTheLastTokenOnly(P);
        dueCompleteAtTheLastTokenOnly(S);
    }

    private static void promise06EachConnectiveWithLetters() {
        dueCompleteAtTheLastTokenOnly(NOT, P);
        dueCompleteAtTheLastTokenOnly(AND, P, Q);
        dueCompleteAtTheLastTokenOnly(OR, P, Q);
        dueCompleteAtTheLastTokenOnly(IMPLIES, P, Q);
    }

    private static void promise06NineTokens() {
        dueCompleteAtTheLastTokenOnly(NINE_WHOLE);
        dueCompleteAtTheLastTokenOnly(NOT, NOT, NOT, NOT, NOT, NOT, NOT, NOT, P);
        dueCompleteAtTheLastTokenOnly(AND, AND, AND, AND, P, Q, R, S, P);
        dueCompleteAtTheLastTokenOnly(OR, P, OR, Q, OR, R, OR, S, P);
        dueCompleteAtTheLastTokenOnly(IMPLIES, IMPLIES, P, Q, IMPLIES, R, IMPLIES, S, P);
    }

    private static void promise06StillCompleteAfterRefusedFeed() {
        for (int which = A; which <= B; which++) {
            ThreeValued x = alone(0, which, P);
            for (int token = NOT; token <= S; token++) {
                x.feed(which, token);
                due("complete(" + which + ") after feed " + token, x.complete(which), true);
            }
        }
    }

    // Promise 7: value

    private static void promise07FirstAssignment() {
        ThreeValued x = with(0, ALL, NOT_ALL);
        due("value(0, 0)", x.value(A, 0), 0);
        due("value(1, 0)", x.value(B, 0), 2);
    }

    private static void promise07LastAssignment() {
        ThreeValued x = with(0, ALL, NOT_ALL);
        due("value(0, 80)", x.value(A, 80), 2);
        due("value(1, 80)", x.value(B, 80), 0);
    }

    private static void promise07BesideUnfinished() {
        due("value(0, 80)", with(0, tokens(P), NINE_UNFINISHED).value(A, 80), 2);
        due("value(1, 80)", with(0, NINE_UNFINISHED, tokens(P)).value(B, 80), 2);
    }

    // Promise 8: find

    private static void promise08FirstAssignment() {
        for (int which = A; which <= B; which++) {
            due("find(" + which + ", 0)", alone(0, which, S).find(which, 0), 0);
            due("find(" + which + ", 2)", alone(0, which, NOT, S).find(which, 2), 0);
        }
    }

    private static void promise08LastAssignment() {
        for (int which = A; which <= B; which++) {
            for (int logic = 0; logic < 3; logic++) {
                due("find(" + which + ", 2)", alone(logic, which, ALL).find(which, 2), 80);
            }
            due("find(" + which + ", 0)", alone(0, which, NOT_ALL).find(which, 0), 80);
        }
    }

    private static void promise08NextToTheLastAssignment() {
        // In logic 2 this is 1 only where Q, R and S are 2 and P is 1.
        int[] list = {IMPLIES, Q, IMPLIES, R, IMPLIES, S, P};
        due("find(0, 1)", alone(2, A, list).find(A, 1), 79);
        due("find(1, 1)", alone(2, B, list).find(B, 1), 79);
    }

    private static void promise08LeastOfMany() {
        for (int which = A; which <= B; which++) {
            due("find(" + which + ", 1)", alone(0, which, P).find(which, 1), 1);
            due("find(" + which + ", 2)", alone(0, which, P).find(which, 2), 2);
            due("find(" + which + ", 1) of Q", alone(0, which, Q).find(which, 1), 3);
            due("find(" + which + ", 2) of R", alone(0, which, R).find(which, 2), 18);
            due("find(" + which + ", 2) of S", alone(0, which, S).find(which, 2), 54);
        }
    }

    private static void promise08NoneHasValue0() {
        due("find(0, 0)", with(0, ALWAYS, NO_TOKENS).find(A, 0), NONE);
        due("find(1, 0)", with(1, NO_TOKENS, ALWAYS).find(B, 0), NONE);
    }

    private static void promise08NoneHasValue1() {
        due("find(0, 1)", with(2, NEVER, NO_TOKENS).find(A, 1), NONE);
        due("find(1, 1)", with(2, NO_TOKENS, NO_LETTER).find(B, 1), NONE);
    }

    private static void promise08NoneHasValue2() {
        due("find(0, 2)", with(0, NEVER, NO_TOKENS).find(A, 2), NONE);
        due("find(1, 2)", with(2, NO_TOKENS, NEVER).find(B, 2), NONE);
    }

    private static void promise08BesideUnfinished() {
        due("find(0, 2)", with(0, tokens(Q), NINE_UNFINISHED).find(A, 2), 6);
        due("find(1, 2)", with(0, NINE_UNFINISHED, tokens(Q)).find(B, 2), 6);
    }

    // Promise 9: values

    private static void dueValues(int logic, int want, int... list) {
        due("values(0)", alone(logic, A, list).values(A), want);
        due("values(1)", alone(logic, B, list).values(B), want);
    }

    private static void promise09OnlyValue0() {
        dueValues(2, 1, NEVER);
    }

    private static void promise09OnlyValue2() {
        dueValues(0, 4, ALWAYS);
    }

    private static void promise09Values0And1() {
        dueValues(0, 3, NEVER);
    }

    private static void promise09Values0And2() {
        dueValues(2, 5, NOT, S);
    }

    private static void promise09Values1And2() {
        dueValues(1, 6, ALWAYS);
    }

    private static void promise09AllValues() {
        dueValues(0, 7, P);
        dueValues(1, 7, S);
    }

    private static void promise09ValueUnderTheFirstAssignmentAlone() {
        dueValues(2, 5, NO_LETTER);
        dueValues(2, 5, SOME_LETTER);
        dueValues(1, 7, NO_LETTER);
    }

    private static void promise09ValueUnderTheLastAssignmentAlone() {
        dueValues(0, 7, ALL);
        dueValues(1, 7, NOT_ALL);
    }

    // Promise 10: valid

    private static void dueValid(int logic, boolean want, int... list) {
        due("valid(0)", alone(logic, A, list).valid(A), want);
        due("valid(1)", alone(logic, B, list).valid(B), want);
    }

    private static void promise10UnderEveryAssignment() {
        dueValid(0, true, ALWAYS);
        dueValid(2, true, ALWAYS);
        dueValid(2, true, NOT, AND, P, NOT, P);
    }

    private static void promise10UnderNone() {
        dueValid(0, false, NEVER);
        dueValid(2, false, NEVER);
    }

    private static void promise10BetweenBreaksIt() {
        dueValid(0, false, OR, P, NOT, P);
        dueValid(1, false, ALWAYS);
    }

    private static void promise10FalseBreaksIt() {
        dueValid(2, false, NOT, P);
    }

    private static void promise10TheFirstAssignmentBreaksIt() {
        dueValid(2, false, SOME_LETTER);
    }

    // No formula of nine tokens is 2 under all assignments before a later one than 75.
    private static void promise10ALateAssignmentBreaksIt() {
        int[] list = {OR, Q, IMPLIES, Q, NOT, AND, R, S};
        due("find(0, 1)", alone(0, A, list).find(A, 1), 75);
        due("find(0, 0)", alone(0, A, list).find(A, 0), NONE);
        dueValid(0, false, list);
    }

    private static void promise10BesideUnfinished() {
        due("valid(0)", with(0, ALWAYS, NINE_UNFINISHED).valid(A), true);
        due("valid(1)", with(0, NINE_UNFINISHED, ALWAYS).valid(B), true);
    }

    // Promise 11: findBoth

    private static void promise11FirstAssignment() {
        due("findBoth(0, 0)", with(0, tokens(P), tokens(S)).findBoth(0, 0), 0);
        due("findBoth(0, 0) of Q and R", with(0, tokens(Q), tokens(R)).findBoth(0, 0), 0);
        due("findBoth(0, 2)", with(0, tokens(P), tokens(NOT, S)).findBoth(0, 2), 0);
    }

    private static void promise11LastAssignment() {
        due("findBoth(2, 2)", with(0, tokens(AND, P, Q), tokens(AND, R, S)).findBoth(2, 2), 80);
        due("findBoth(2, 0)", with(0, ALL, NOT_ALL).findBoth(2, 0), 80);
        due("findBoth(0, 2)", with(0, NOT_ALL, ALL).findBoth(0, 2), 80);
    }

    private static void promise11LeastOfMany() {
        due("findBoth(1, 2)", with(0, tokens(P), tokens(R)).findBoth(1, 2), 19);
        due("findBoth(2, 1)", with(0, tokens(Q), tokens(S)).findBoth(2, 1), 33);
    }

    private static void promise11EachAloneButNoneForBoth() {
        ThreeValued x = with(0, tokens(P), tokens(P));
        for (int v = 0; v < 3; v++) {
            for (int w = 0; w < 3; w++) {
                due("findBoth(" + v + ", " + w + ")", x.findBoth(v, w), v == w ? v : NONE);
            }
        }
    }

    private static void promise11NoneForA() {
        due("findBoth(2, 0)", with(0, NEVER, tokens(Q)).findBoth(2, 0), NONE);
    }

    private static void promise11NoneForB() {
        due("findBoth(0, 2)", with(0, tokens(Q), NEVER).findBoth(0, 2), NONE);
    }

    // Promise 12: entails

    private static void promise12ANeverHas2() {
        due("entails()", with(0, NEVER, tokens(Q)).entails(), true);
        due("entails() of none that has 2", with(0, NEVER, NEVER).entails(), true);
    }

    private static void promise12BAlwaysHas2() {
        due("entails()", with(0, tokens(P), ALWAYS).entails(), true);
    }

    private static void promise12SameFormula() {
        due("entails()", with(0, tokens(R), tokens(R)).entails(), true);
    }

    private static void promise12BetweenInBBreaksIt() {
        // Where P is 2, B is 1 or 2 and never 0.
        int[] b = {AND, P, OR, Q, NOT, Q};
        ThreeValued x = with(0, tokens(P), b);
        due("findBoth(2, 0)", x.findBoth(2, 0), NONE);
        due("entails()", x.entails(), false);
    }

    private static void promise12BetweenInAAsksNothing() {
        // B is 2 where P is 2, and 0 both where P is 1 and where it is 0.
        ThreeValued x = with(0, tokens(P), tokens(NOT, IMPLIES, P, NOT, P));
        due("findBoth(1, 0)", x.findBoth(1, 0), 1);
        due("entails()", x.entails(), true);
    }

    private static void promise12AHas2UnderTheFirstAssignment() {
        due("entails()", with(0, tokens(NOT, Q), tokens(OR, NOT, Q, P)).entails(), true);
    }

    private static void promise12TheFirstAssignmentBreaksIt() {
        due("entails()", with(2, NO_LETTER, NEVER).entails(), false);
    }

    private static void promise12TheLastAssignmentBreaksIt() {
        due("entails()", with(0, ALL, NOT_ALL).entails(), false);
    }

    private static void promise12NotTheOtherWay() {
        due("entails()", with(0, tokens(AND, P, Q), tokens(P)).entails(), true);
        due("entails() turned", with(0, tokens(P), tokens(AND, P, Q)).entails(), false);
    }

    // Promise 13: below

    private static void promise13EqualIsAtMost() {
        due("below()", with(0, tokens(S), tokens(S)).below(), true);
        due("below() of always 2", with(0, ALWAYS, ALWAYS).below(), true);
        due("below() of always 0", with(2, NEVER, NEVER).below(), true);
    }

    private static void promise13LessIsAtMost() {
        due("below()", with(0, NEVER, ALWAYS).below(), true);
        due("below() turned", with(0, ALWAYS, NEVER).below(), false);
    }

    private static void promise13OneAboveZeroBreaksIt() {
        // P AND NOT P is 1 at most, and Q IMPLIES Q turned over is always 0.
        ThreeValued x = with(0, NEVER, tokens(NOT, IMPLIES, Q, Q));
        due("entails()", x.entails(), true);
        due("below()", x.below(), false);
    }

    private static void promise13TwoAboveOneBreaksIt() {
        // Q OR NOT Q is 1 at least, and P IMPLIES P is always 2.
        due("below()", with(0, ALWAYS, tokens(OR, Q, NOT, Q)).below(), false);
    }

    private static void promise13TheFirstAssignmentBreaksIt() {
        due("below()", with(2, NO_LETTER, NEVER).below(), false);
    }

    private static void promise13TheLastAssignmentBreaksIt() {
        due("below()", with(0, ALL, NOT_ALL).below(), false);
    }

    // Promise 14: alike

    private static void promise14OtherTokensSameValues() {
        due("alike()", with(0, tokens(OR, P, S), tokens(OR, S, P)).alike(), true);
        due("alike() of NOT NOT", with(0, tokens(NOT, NOT, P), tokens(P)).alike(), true);
        due("alike() of one token and nine",
                with(0, tokens(P), tokens(AND, P, OR, P, AND, P, OR, P, Q)).alike(), true);
    }

    private static void promise14BelowOneWayIsNotEnough() {
        due("alike()", with(0, tokens(AND, P, Q), tokens(P)).alike(), false);
        due("alike() turned", with(0, tokens(P), tokens(AND, P, Q)).alike(), false);
    }

    private static void promise14BetweenAloneBreaksIt() {
        // The same where all letters are 0 or 2.
        due("alike()", with(0, ALWAYS, tokens(OR, P, NOT, P)).alike(), false);
        due("alike() of 0 and 1", with(0, NEVER, tokens(NOT, IMPLIES, P, P)).alike(), false);
    }

    private static void promise14TheFirstAssignmentBreaksIt() {
        due("alike()", with(2, NO_LETTER, NEVER).alike(), false);
        due("alike() of 0 and 2", with(2, SOME_LETTER, ALWAYS).alike(), false);
    }

    // No two formulas of nine tokens are the same before a later assignment than 79.
    private static void promise14TheLastButOneAssignmentBreaksIt() {
        int[] notNot = {AND, Q, AND, R, AND, S, NOT, NOT, P};
        due("alike()", with(2, ALL, notNot).alike(), false);
        due("alike() turned", with(2, notNot, ALL).alike(), false);
        due("alike() in logic 0", with(0, ALL, notNot).alike(), true);
        int[] three = {AND, Q, AND, R, S};
        int[] threeAndAlways = {AND, Q, AND, R, AND, S, IMPLIES, P, P};
        due("alike() in logic 1", with(1, three, threeAndAlways).alike(), false);
    }

    // Promise 15: findApart

    private static void promise15FirstLetter() {
        due("findApart(0, 0)", alone(0, A, P).findApart(A, 0), NONE);
        due("findApart(1, 0)", alone(0, B, P).findApart(B, 0), NONE);
        due("findApart(0, 0) of Q", alone(0, A, Q).findApart(A, 0), 1);
    }

    private static void promise15LastLetter() {
        due("findApart(0, 3)", alone(0, A, S).findApart(A, 3), NONE);
        due("findApart(1, 3)", alone(0, B, S).findApart(B, 3), NONE);
        due("findApart(0, 3) of R", alone(0, A, R).findApart(A, 3), 9);
    }

    private static void promise15NoneApartThoughOtherTokens() {
        for (int l = 0; l < 4; l++) {
            int letter = P + l;
            due("findApart(0, " + l + ")", alone(0, A, NOT, NOT, letter).findApart(A, l), NONE);
            due("findApart(1, " + l + ")", alone(2, B, AND, letter, OR, letter, letter).findApart(B, l), NONE);
        }
    }

    private static void promise15FirstAssignment() {
        for (int l = 0; l < 4; l++) {
            due("findApart(0, " + l + ")", alone(0, A, NOT, P).findApart(A, l), 0);
            due("findApart(1, " + l + ")", with(0, NO_TOKENS, ALWAYS).findApart(B, l), 0);
        }
    }

    private static void promise15ApartByBetweenAlone() {
        for (int l = 0; l < 4; l++) {
            int letter = P + l;
            int[] weights = {1, 3, 9, 27};
            due("findApart(0, " + l + ")", alone(2, A, NOT, NOT, letter).findApart(A, l), weights[l]);
        }
    }

    // No formula of nine tokens keeps to a letter up to a later assignment than 75.
    private static void promise15ALateAssignment() {
        int[] keepsToR = {AND, R, OR, Q, IMPLIES, Q, NOT, S};
        due("findApart(0, 2)", alone(0, A, keepsToR).findApart(A, 2), 75);
        due("findApart(1, 2)", alone(0, B, keepsToR).findApart(B, 2), 75);
        int[] keepsToS = {AND, S, OR, Q, IMPLIES, Q, NOT, R};
        due("findApart(0, 3)", alone(0, A, keepsToS).findApart(A, 3), 75);
        due("findApart(1, 3)", alone(0, B, keepsToS).findApart(B, 3), 75);
    }

    private static void promise15BesideUnfinished() {
        due("findApart(0, 1)", with(0, tokens(S), NINE_UNFINISHED).findApart(A, 1), 3);
        due("findApart(1, 1)", with(0, NINE_UNFINISHED, tokens(S)).findApart(B, 1), 3);
    }
}
