/** Each promise of the document with ordinary inputs, the edges it names, and wrong inputs. */
public final class PromisesTest {
    private static final int NONE = -1;
    private static final int LEAST = Integer.MIN_VALUE;
    private static final int MOST = Integer.MAX_VALUE;

    // Prefix formulas: what is applied comes first.
    private static final int NOT = 0;
    private static final int AND = 1;
    private static final int OR = 2;
    private static final int IMPLIES = 3;
    private static final int P = 4;
    private static final int Q = 5;
    private static final int R = 6;
    private static final int S = 7;

    private static final int[] NO_TOKENS = {};
    private static final int[] ALL = {AND, AND, P, Q, AND, R, S};
    private static final int[] NOT_ALL = {NOT, AND, AND, P, Q, AND, R, S};
    // In logic 2 these have one value under assignment 0 and the other under all others.
    private static final int[] NO_LETTER = {NOT, OR, OR, P, Q, OR, R, S};
    private static final int[] SOME_LETTER = {NOT, NOT, OR, OR, P, Q, OR, R, S};
    // Never 2 in any logic, and always 0 in logic 2.
    private static final int[] NEVER = {AND, P, NOT, P};
    private static final int[] WRONG_WHICH = {-1, 2, 3, 9, LEAST, MOST};

    private static int wrong = 0;

    public static void main(String[] args) {
        constants();
        promise1NewObject();
        promise2Logic();
        promise3SetLogic();
        promise4Feed();
        promise5Back();
        promise6Complete();
        promise7Value();
        promise8Find();
        promise9Values();
        promise10Valid();
        promise11FindBoth();
        promise12Entails();
        promise13Below();
        promise14Alike();
        promise15FindApart();
        System.out.println(wrong == 0 ? "all promises hold" : wrong + " answers are not as due");
        if (wrong != 0) {
            System.exit(1);
        }
    }

    private static void due(String what, int got, int want) {
        if (got != want) {
            wrong++;
            System.out.println(what + " answered " + got + ", due is " + want);
        }
    }

    private static void due(String what, boolean got, boolean want) {
        if (got != want) {
            wrong++;
            System.out.println(what + " answered " + got + ", due is " + want);
        }
    }

    private static int[] tokens(int... list) {
        return list;
    }

    private static void feedAll(ThreeValued x, int which, int[] list) {
        for (int token : list) {
            x.feed(which, token);
        }
    }

    private static ThreeValued with(int logic, int[] a, int[] b) {
        ThreeValued x = new ThreeValued(logic);
        feedAll(x, 0, a);
        feedAll(x, 1, b);
        return x;
    }

    /** Takes both formulas apart, so it comes last on an object. */
    private static void dueTokens(String what, ThreeValued x, int which, int... list) {
        for (int i = list.length - 1; i >= 0; i--) {
            due(what + ": token " + i + " of formula " + which, x.back(which), list[i]);
        }
        due(what + ": before the first token of formula " + which, x.back(which), NONE);
    }

    private static void constants() {
        due("NONE", ThreeValued.NONE, -1);
    }

    private static void promise1NewObject() {
        int[] given = {LEAST, -7, -1, 0, 1, 2, 3, 4, 100, MOST};
        int[] clamped = {0, 0, 0, 0, 1, 2, 2, 2, 2, 2};
        for (int i = 0; i < given.length; i++) {
            ThreeValued x = new ThreeValued(given[i]);
            due("1: logic of new(" + given[i] + ")", x.logic(), clamped[i]);
            due("1: new, complete(0)", x.complete(0), false);
            due("1: new, complete(1)", x.complete(1), false);
            due("1: new, back(0)", x.back(0), NONE);
            due("1: new, back(1)", x.back(1), NONE);
            due("1: new, first feed(0)", x.feed(0, NOT), 1);
            due("1: new, first feed(1)", x.feed(1, NOT), 1);
        }
        ThreeValued first = with(0, tokens(P), tokens(Q));
        ThreeValued second = new ThreeValued(1);
        due("1: objects don't share tokens", second.complete(0) || second.complete(1), false);
        due("1: objects don't share a logic", first.logic(), 0);
    }

    private static void promise2Logic() {
        for (int logic = 0; logic < 3; logic++) {
            ThreeValued x = with(logic, tokens(IMPLIES, P, Q), tokens(NOT, P));
            due("2: logic()", x.logic(), logic);
            due("2: logic() again", x.logic(), logic);
            x.setLogic(2 - logic);
            due("2: logic() after setLogic", x.logic(), 2 - logic);
            dueTokens("2: logic() changes nothing", x, 0, IMPLIES, P, Q);
        }
    }

    private static void promise3SetLogic() {
        for (int from = 0; from < 3; from++) {
            for (int to = 0; to < 3; to++) {
                ThreeValued x = new ThreeValued(from);
                due("3: setLogic(" + to + ")", x.setLogic(to), true);
                due("3: logic() after setLogic(" + to + ")", x.logic(), to);
            }
            for (int bad : new int[] {-1, 3, 4, -100, LEAST, MOST}) {
                ThreeValued x = with(from, tokens(NOT, P), tokens(Q));
                due("3: setLogic(" + bad + ")", x.setLogic(bad), false);
                due("3: logic() after setLogic(" + bad + ")", x.logic(), from);
            }
        }
        ThreeValued x = with(0, tokens(NOT, P), tokens(OR, Q));
        due("3: NOT between in logic 0", x.value(0, 1), 1);
        x.setLogic(2);
        due("3: NOT between after setLogic(2)", x.value(0, 1), 0);
        dueTokens("3: setLogic keeps tokens", x, 0, NOT, P);
        dueTokens("3: setLogic keeps tokens", x, 1, OR, Q);
    }

    private static void promise4Feed() {
        ThreeValued x = new ThreeValued(0);
        for (int bad : WRONG_WHICH) {
            due("4: feed(" + bad + ", 4)", x.feed(bad, P), NONE);
        }
        for (int bad : new int[] {-1, 8, 9, LEAST, MOST}) {
            due("4: feed(0, " + bad + ")", x.feed(0, bad), NONE);
            due("4: feed(1, " + bad + ")", x.feed(1, bad), NONE);
        }
        due("4: refused feeds change nothing", x.back(0), NONE);
        due("4: refused feeds change nothing", x.back(1), NONE);

        due("4: feed AND", x.feed(0, AND), 1);
        due("4: feed OR to the other", x.feed(1, OR), 1);
        due("4: feed P", x.feed(0, P), 2);
        due("4: feed S", x.feed(0, S), 3);
        for (int token = 0; token < 8; token++) {
            due("4: feed to a complete formula", x.feed(0, token), NONE);
        }
        due("4: the other goes on", x.feed(1, IMPLIES), 2);
        dueTokens("4: fed tokens", x, 0, AND, P, S);
        dueTokens("4: fed tokens", x, 1, OR, IMPLIES);

        for (int letter = P; letter <= S; letter++) {
            ThreeValued y = new ThreeValued(0);
            due("4: a letter alone", y.feed(1, letter), 1);
            due("4: after a letter alone", y.feed(1, P), NONE);
            dueTokens("4: a letter alone", y, 1, letter);
        }
        promise4Full();
    }

    private static void promise4Full() {
        for (int connective = NOT; connective <= IMPLIES; connective++) {
            for (int which = 0; which < 2; which++) {
                ThreeValued x = new ThreeValued(0);
                for (int i = 1; i <= 9; i++) {
                    due("4: feed number " + i, x.feed(which, connective), i);
                }
                for (int token = 0; token < 8; token++) {
                    due("4: feed number 10", x.feed(which, token), NONE);
                }
                due("4: the other formula is untouched", x.back(1 - which), NONE);
                int c = connective;
                dueTokens("4: nine tokens", x, which, c, c, c, c, c, c, c, c, c);
            }
        }
        ThreeValued x = with(0, tokens(AND, P, OR, Q, IMPLIES, R, NOT, S), NO_TOKENS);
        due("4: eight tokens are complete", x.complete(0), true);
        ThreeValued y = with(0, tokens(AND, P, OR, Q, IMPLIES, R, NOT, NOT), NO_TOKENS);
        due("4: the ninth token completes", y.feed(0, S), 9);
        due("4: nine tokens are complete", y.complete(0), true);
        dueTokens("4: nine tokens", y, 0, AND, P, OR, Q, IMPLIES, R, NOT, NOT, S);
    }

    private static void promise5Back() {
        ThreeValued x = with(1, tokens(AND, P, NOT, Q), tokens(S));
        for (int bad : WRONG_WHICH) {
            due("5: back(" + bad + ")", x.back(bad), NONE);
        }
        due("5: back(0)", x.back(0), Q);
        due("5: no longer complete", x.complete(0), false);
        due("5: the other is still complete", x.complete(1), true);
        due("5: feed after back", x.feed(0, R), 4);
        due("5: value after another last token", x.value(0, 2 + 9 * 1), 1);
        dueTokens("5: all the way", x, 0, AND, P, NOT, R);
        due("5: empty stays empty", x.back(0), NONE);
        due("5: feed after empty", x.feed(0, P), 1);
        dueTokens("5: the other", x, 1, S);
        due("5: logic is kept", x.logic(), 1);
    }

    private static void promise6Complete() {
        for (int bad : WRONG_WHICH) {
            ThreeValued x = with(0, tokens(P), tokens(Q));
            due("6: complete(" + bad + ")", x.complete(bad), false);
        }
        dueComplete(false, NO_TOKENS);
        dueComplete(false, tokens(NOT));
        dueComplete(false, tokens(AND));
        dueComplete(false, tokens(OR, P));
        dueComplete(false, tokens(IMPLIES, NOT, P));
        dueComplete(false, tokens(AND, AND, P, Q));
        dueComplete(false, tokens(NOT, NOT, NOT, NOT, NOT, NOT, NOT, NOT, NOT));
        dueComplete(false, tokens(AND, AND, AND, AND, P, Q, R, S, NOT));
        dueComplete(true, tokens(P));
        dueComplete(true, tokens(S));
        dueComplete(true, tokens(NOT, Q));
        dueComplete(true, tokens(AND, P, Q));
        dueComplete(true, tokens(OR, NOT, P, NOT, Q));
        dueComplete(true, tokens(IMPLIES, P, IMPLIES, Q, R));
        dueComplete(true, tokens(AND, AND, AND, AND, P, Q, R, S, P));
        dueComplete(true, tokens(NOT, NOT, NOT, NOT, NOT, NOT, NOT, NOT, P));
    }

    private static void dueComplete(boolean want, int[] list) {
        ThreeValued asA = with(0, list, NO_TOKENS);
        due("6: complete(0)", asA.complete(0), want);
        due("6: complete(1) beside", asA.complete(1), false);
        ThreeValued asB = with(2, NO_TOKENS, list);
        due("6: complete(1)", asB.complete(1), want);
        due("6: complete(0) beside", asB.complete(0), false);
        dueTokens("6: complete changes nothing", asA, 0, list);
    }

    private static void promise7Value() {
        promise7Tables();
        promise7Letters();
        promise7Nested();
        ThreeValued x = with(0, tokens(P), tokens(AND, Q));
        for (int bad : WRONG_WHICH) {
            due("7: value(" + bad + ", 0)", x.value(bad, 0), NONE);
        }
        for (int bad : new int[] {-1, 81, 82, LEAST, MOST}) {
            due("7: value(0, " + bad + ")", x.value(0, bad), NONE);
        }
        due("7: not complete", x.value(1, 0), NONE);
        due("7: no tokens", new ThreeValued(0).value(0, 0), NONE);
    }

    /** Row x, column y of each table: the truth values 0, 1 and 2 of P and Q. */
    private static void promise7Tables() {
        int[][] not = {{2, 1, 0}, {2, 1, 0}, {2, 0, 0}};
        int[] and = {0, 0, 0, 0, 1, 1, 0, 1, 2};
        int[] or = {0, 1, 2, 1, 1, 2, 2, 2, 2};
        int[][] implies = {
            {2, 2, 2, 1, 2, 2, 0, 1, 2},
            {2, 2, 2, 1, 1, 2, 0, 1, 2},
            {2, 2, 2, 0, 2, 2, 0, 1, 2}};
        for (int logic = 0; logic < 3; logic++) {
            for (int which = 0; which < 2; which++) {
                dueTable(logic, which, AND, and);
                dueTable(logic, which, OR, or);
                dueTable(logic, which, IMPLIES, implies[logic]);
                ThreeValued x = new ThreeValued(logic);
                feedAll(x, which, tokens(NOT, P));
                for (int p = 0; p < 3; p++) {
                    due("7: NOT " + p + " in logic " + logic, x.value(which, p), not[logic][p]);
                }
            }
        }
    }

    private static void dueTable(int logic, int which, int connective, int[] table) {
        ThreeValued x = new ThreeValued(logic);
        feedAll(x, which, tokens(connective, P, Q));
        for (int p = 0; p < 3; p++) {
            for (int q = 0; q < 3; q++) {
                due("7: connective " + connective + " of " + p + " and " + q + " in logic " + logic,
                        x.value(which, p + 3 * q), table[3 * p + q]);
            }
        }
    }

    private static void promise7Letters() {
        int[] weights = {1, 3, 9, 27};
        for (int letter = 0; letter < 4; letter++) {
            ThreeValued x = with(0, tokens(P + letter), NO_TOKENS);
            for (int v = 0; v < 3; v++) {
                due("7: letter " + letter, x.value(0, v * weights[letter]), v);
                int others = 80 - 2 * weights[letter];
                due("7: letter " + letter + ", others true", x.value(0, v * weights[letter] + others), v);
            }
            due("7: letter " + letter + " at 80", x.value(0, 80), 2);
        }
    }

    private static void promise7Nested() {
        // (P IMPLIES Q) IMPLIES R is not P IMPLIES (Q IMPLIES R) where all are false.
        ThreeValued x = with(0, tokens(IMPLIES, IMPLIES, P, Q, R), tokens(IMPLIES, P, IMPLIES, Q, R));
        due("7: nested on the left", x.value(0, 0), 0);
        due("7: nested on the right", x.value(1, 0), 2);
        // The deepest formulas to either side: five letters.
        ThreeValued deep = with(0, tokens(IMPLIES, IMPLIES, IMPLIES, IMPLIES, P, Q, R, S, P),
                tokens(IMPLIES, P, AND, Q, OR, R, IMPLIES, S, P));
        // Each step to the right turns the value over: 2, 0, 2, 0.
        due("7: deep on the left, all false", deep.value(0, 0), 0);
        due("7: deep on the right, all false", deep.value(1, 0), 2);
        // P=0 Q=1 R=2 S=1: P>Q 2, >R 2, >S 1, >P 1.
        due("7: deep on the left, mixed", deep.value(0, 3 + 18 + 27), 1);
        // P=2 Q=1 R=1 S=2: S>P 2, R or that 2, Q and that 1, P> that 1.
        due("7: deep on the right, mixed", deep.value(1, 2 + 3 + 9 + 54), 1);
    }

    private static void promise8Find() {
        ThreeValued x = with(0, tokens(S), tokens(AND, Q, NOT, Q));
        due("8: find(0, 0)", x.find(0, 0), 0);
        due("8: find(0, 1)", x.find(0, 1), 27);
        due("8: find(0, 2)", x.find(0, 2), 54);
        due("8: find(1, 0)", x.find(1, 0), 0);
        due("8: find(1, 1)", x.find(1, 1), 3);
        due("8: find(1, 2), there is none", x.find(1, 2), NONE);
        x.setLogic(2);
        due("8: find(1, 1) in logic 2", x.find(1, 1), NONE);
        for (int bad : WRONG_WHICH) {
            due("8: find(" + bad + ", 0)", x.find(bad, 0), NONE);
        }
        for (int bad : new int[] {-1, 3, LEAST, MOST}) {
            due("8: find(0, " + bad + ")", x.find(0, bad), NONE);
        }
        x.back(1);
        for (int v = -1; v < 4; v++) {
            due("8: not complete, find(1, " + v + ")", x.find(1, v), NONE);
            due("8: no tokens, find(0, " + v + ")", new ThreeValued(0).find(0, v), NONE);
        }
        ThreeValued last = with(0, ALL, NO_TOKENS);
        due("8: the last assignment", last.find(0, 2), 80);
        due("8: all between", last.find(0, 1), 40);
    }

    private static void promise9Values() {
        ThreeValued x = with(0, tokens(R), tokens(OR, P, NOT, P));
        due("9: a letter", x.values(0), 7);
        due("9: P OR NOT P", x.values(1), 6);
        ThreeValued y = with(2, tokens(NOT, P), tokens(AND, P, NOT, P));
        due("9: NOT P in logic 2", y.values(0), 5);
        due("9: P AND NOT P in logic 2", y.values(1), 1);
        ThreeValued z = with(0, tokens(IMPLIES, S, S), tokens(AND, S, NOT, S));
        due("9: S IMPLIES S", z.values(0), 4);
        due("9: S AND NOT S", z.values(1), 3);
        for (int bad : WRONG_WHICH) {
            due("9: values(" + bad + ")", z.values(bad), 0);
        }
        z.back(0);
        due("9: not complete", z.values(0), 0);
        due("9: no tokens", new ThreeValued(0).values(1), 0);
        due("9: 2 under the last assignment alone", with(1, NO_TOKENS, ALL).values(1), 7);
        due("9: 2 under the first assignment alone", with(2, NO_LETTER, NO_TOKENS).values(0), 5);
        due("9: 0 under the first assignment alone", with(2, SOME_LETTER, NO_TOKENS).values(0), 5);
    }

    private static void promise10Valid() {
        int[] same = tokens(IMPLIES, P, P);
        int[] either = tokens(OR, P, NOT, P);
        int[] weaken = tokens(IMPLIES, P, IMPLIES, Q, P);
        int[] weakNot = tokens(OR, NOT, P, NOT, NOT, P);
        boolean[] sameValid = {true, false, true};
        boolean[] weakNotValid = {false, false, true};
        for (int logic = 0; logic < 3; logic++) {
            ThreeValued x = with(logic, same, either);
            due("10: P IMPLIES P in logic " + logic, x.valid(0), sameValid[logic]);
            due("10: P OR NOT P in logic " + logic, x.valid(1), false);
            ThreeValued y = with(logic, weakNot, weaken);
            due("10: NOT P OR NOT NOT P in logic " + logic, y.valid(0), weakNotValid[logic]);
            due("10: P IMPLIES Q IMPLIES P in logic " + logic, y.valid(1), sameValid[logic]);
            for (int bad : WRONG_WHICH) {
                due("10: valid(" + bad + ")", x.valid(bad), false);
            }
        }
        ThreeValued x = with(0, same, tokens(P));
        due("10: a letter", x.valid(1), false);
        x.back(0);
        due("10: not complete", x.valid(0), false);
        due("10: no tokens", new ThreeValued(0).valid(0), false);
        due("10: never 2", with(0, NEVER, NO_TOKENS).valid(0), false);
        due("10: not 2 under the first assignment alone", with(2, SOME_LETTER, NO_TOKENS).valid(0), false);
    }

    private static void promise11FindBoth() {
        ThreeValued x = with(0, tokens(P), tokens(R));
        for (int v = 0; v < 3; v++) {
            for (int w = 0; w < 3; w++) {
                due("11: findBoth(" + v + ", " + w + ")", x.findBoth(v, w), v + 9 * w);
            }
        }
        for (int bad : new int[] {-1, 3, LEAST, MOST}) {
            due("11: findBoth(" + bad + ", 0)", x.findBoth(bad, 0), NONE);
            due("11: findBoth(0, " + bad + ")", x.findBoth(0, bad), NONE);
            due("11: findBoth(" + bad + ", " + bad + ")", x.findBoth(bad, bad), NONE);
        }
        ThreeValued y = with(0, tokens(Q), tokens(NOT, Q));
        due("11: Q and NOT Q both 1", y.findBoth(1, 1), 3);
        due("11: Q 0 and NOT Q 2", y.findBoth(0, 2), 0);
        due("11: Q and NOT Q both 2", y.findBoth(2, 2), NONE);
        y.setLogic(2);
        due("11: Q 1 and NOT Q 0 in logic 2", y.findBoth(1, 0), 3);
        due("11: both 1 in logic 2", y.findBoth(1, 1), NONE);
        y.back(1);
        due("11: B not complete", y.findBoth(0, 0), NONE);
        due("11: B not complete, wrong values", y.findBoth(-1, -1), NONE);
        due("11: A not complete", with(0, tokens(AND, P), tokens(P)).findBoth(0, 0), NONE);
        due("11: no tokens", new ThreeValued(0).findBoth(0, 0), NONE);
        due("11: A without tokens", with(0, NO_TOKENS, tokens(P)).findBoth(0, 0), NONE);
        due("11: the last assignment",
                with(0, tokens(AND, P, Q), tokens(AND, R, S)).findBoth(2, 2), 80);
    }

    private static void promise12Entails() {
        due("12: P AND Q, P", with(0, tokens(AND, P, Q), tokens(P)).entails(), true);
        due("12: P, P AND Q", with(0, tokens(P), tokens(AND, P, Q)).entails(), false);
        // A never has 2, so nothing is asked of B, though A is not below B.
        due("12: P AND NOT P, Q", with(0, NEVER, tokens(Q)).entails(), true);
        // Between is enough to break it: where P is 2, B is 1 or 2 but never 0.
        due("12: P, P AND (Q OR NOT Q)",
                with(0, tokens(P), tokens(AND, P, OR, Q, NOT, Q)).entails(), false);
        due("12: P, Q IMPLIES P", with(1, tokens(P), tokens(IMPLIES, Q, P)).entails(), true);
        // In logic 2, NOT NOT makes 2 of between.
        due("12: NOT NOT P, P in logic 0", with(0, tokens(NOT, NOT, P), tokens(P)).entails(), true);
        due("12: NOT NOT P, P in logic 2", with(2, tokens(NOT, NOT, P), tokens(P)).entails(), false);
        due("12: broken under the first assignment alone", with(2, NO_LETTER, NEVER).entails(), false);
        due("12: broken under the last assignment alone", with(0, ALL, NOT_ALL).entails(), false);
        dueFalseUnlessComplete(12);
    }

    private static void promise13Below() {
        due("13: P AND Q, P", with(0, tokens(AND, P, Q), tokens(P)).below(), true);
        due("13: P, P AND Q", with(0, tokens(P), tokens(AND, P, Q)).below(), false);
        due("13: P, P", with(0, tokens(P), tokens(P)).below(), true);
        due("13: P, P OR S", with(0, tokens(P), tokens(OR, P, S)).below(), true);
        due("13: P OR S, P", with(0, tokens(OR, P, S), tokens(P)).below(), false);
        // Entails is not enough: A is 1 where B is 0.
        due("13: P AND NOT P, Q", with(0, NEVER, tokens(Q)).below(), false);
        due("13: P AND NOT P, Q in logic 2", with(2, NEVER, tokens(Q)).below(), true);
        due("13: P, NOT NOT P in logic 2", with(2, tokens(P), tokens(NOT, NOT, P)).below(), true);
        due("13: NOT NOT P, P in logic 2", with(2, tokens(NOT, NOT, P), tokens(P)).below(), false);
        due("13: broken under the first assignment alone", with(2, NO_LETTER, NEVER).below(), false);
        due("13: broken under the last assignment alone", with(0, ALL, NOT_ALL).below(), false);
        dueFalseUnlessComplete(13);
    }

    private static void promise14Alike() {
        due("14: P, P", with(0, tokens(P), tokens(P)).alike(), true);
        due("14: P, Q", with(0, tokens(P), tokens(Q)).alike(), false);
        due("14: AND both ways", with(0, tokens(AND, P, S), tokens(AND, S, P)).alike(), true);
        due("14: below is not enough", with(0, tokens(AND, P, Q), tokens(P)).alike(), false);
        due("14: above is not enough", with(0, tokens(P), tokens(AND, P, Q)).alike(), false);
        int[] implies = tokens(IMPLIES, P, Q);
        int[] notOr = tokens(OR, NOT, P, Q);
        due("14: IMPLIES and OR NOT in logic 0", with(0, implies, notOr).alike(), false);
        due("14: IMPLIES and OR NOT in logic 1", with(1, implies, notOr).alike(), true);
        due("14: IMPLIES and OR NOT in logic 2", with(2, implies, notOr).alike(), false);
        due("14: NOT NOT P, P in logic 1", with(1, tokens(NOT, NOT, P), tokens(P)).alike(), true);
        due("14: NOT NOT P, P in logic 2", with(2, tokens(NOT, NOT, P), tokens(P)).alike(), false);
        due("14: broken under the first assignment alone", with(2, NO_LETTER, NEVER).alike(), false);
        dueFalseUnlessComplete(14);
    }

    private static void dueFalseUnlessComplete(int promise) {
        int[][] unfinished = {NO_TOKENS, tokens(NOT), tokens(AND, P), tokens(OR, P, NOT)};
        int[] valid = tokens(IMPLIES, P, P);
        for (int[] list : unfinished) {
            due(promise + ": A not complete", judgeBoth(promise, with(0, list, valid)), false);
            due(promise + ": B not complete", judgeBoth(promise, with(0, valid, list)), false);
            due(promise + ": neither complete", judgeBoth(promise, with(0, list, list)), false);
        }
        due(promise + ": both complete", judgeBoth(promise, with(0, valid, valid)), true);
    }

    private static boolean judgeBoth(int promise, ThreeValued x) {
        if (promise == 12) {
            return x.entails();
        }
        return promise == 13 ? x.below() : x.alike();
    }

    private static void promise15FindApart() {
        int[] weights = {1, 3, 9, 27};
        for (int letter = 0; letter < 4; letter++) {
            ThreeValued x = with(0, tokens(P + letter), tokens(NOT, NOT, P + letter));
            for (int l = 0; l < 4; l++) {
                int lesser = weights[letter < l ? letter : l];
                int want = l == letter ? NONE : lesser;
                due("15: letter " + letter + " and letter " + l, x.findApart(0, l), want);
                due("15: NOT NOT letter " + letter + " and letter " + l, x.findApart(1, l), want);
            }
            x.setLogic(2);
            due("15: NOT NOT letter in logic 2", x.findApart(1, letter), weights[letter]);
        }
        ThreeValued x = with(0, tokens(OR, P, AND, Q, AND, R, S), tokens(AND, Q, OR, R));
        due("15: apart late", x.findApart(0, 0), 39);
        due("15: apart at once", with(0, tokens(NOT, P), NO_TOKENS).findApart(0, 0), 0);
        for (int bad : WRONG_WHICH) {
            due("15: findApart(" + bad + ", 0)", x.findApart(bad, 0), NONE);
        }
        for (int bad : new int[] {-1, 4, 5, LEAST, MOST}) {
            due("15: findApart(0, " + bad + ")", x.findApart(0, bad), NONE);
        }
        due("15: not complete", x.findApart(1, 0), NONE);
        due("15: no tokens", new ThreeValued(0).findApart(0, 0), NONE);
    }
}
