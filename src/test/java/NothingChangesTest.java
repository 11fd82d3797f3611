import java.lang.reflect.Method;
import java.util.ArrayList;
import java.util.Comparator;
import java.util.List;

/**
 * Each refused call and each call that only asks, one method for each reason that
 * the document names. The call is made in every state of a table; it must answer as
 * the document says, and every later call must answer as if it had not been made.
 */
public final class NothingChangesTest {
    private static final int NONE = -1;
    private static final int FALSE = 0;
    private static final int A = 0;
    private static final int B = 1;

    private static final int NOT = 0;
    private static final int AND = 1;
    private static final int OR = 2;
    private static final int IMPLIES = 3;
    private static final int P = 4;
    private static final int Q = 5;
    private static final int R = 6;
    private static final int S = 7;

    private static final int EMPTY = 0;
    private static final int UNFINISHED = 1;
    private static final int LETTER = 2;
    private static final int WHOLE = 3;
    private static final int NINE_UNFINISHED = 4;
    private static final int NINE_WHOLE = 5;
    private static final int[][] SHAPES = {
        {},
        {IMPLIES, NOT},
        {S},
        {IMPLIES, P, NOT, Q},
        {OR, IMPLIES, AND, P, NOT, Q, R, NOT, NOT},
        {OR, IMPLIES, P, NOT, Q, AND, R, NOT, S}};

    // Besides the ends of int: numbers that would be right ones if they were cut to a byte or a short.
    private static final int[] FAR = {
        Integer.MIN_VALUE, Integer.MIN_VALUE + 1, Integer.MAX_VALUE, Integer.MAX_VALUE - 1,
        -256, -255, 256, 257, 260, -65536, 65536, 65537, 65540};

    private static int wrong = 0;
    private static int made = 0;

    private interface Call {
        int on(ThreeValued x);
    }

    private interface Where {
        boolean holds(State state);
    }

    private record State(int logic, int a, int b) {
        int shape(int which) {
            return which == A ? a : b;
        }

        int[] tokens(int which) {
            return SHAPES[shape(which)];
        }

        boolean whole(int which) {
            int shape = shape(which);
            return shape == LETTER || shape == WHOLE || shape == NINE_WHOLE;
        }

        ThreeValued object() {
            ThreeValued x = new ThreeValued(logic);
            for (int which = A; which <= B; which++) {
                for (int token : tokens(which)) {
                    x.feed(which, token);
                }
            }
            return x;
        }
    }

    private static final List<State> STATES = states();
    private static final Where ANY = state -> true;

    private static List<State> states() {
        List<State> all = new ArrayList<>();
        for (int logic = 0; logic < 3; logic++) {
            for (int a = 0; a < SHAPES.length; a++) {
                for (int b = 0; b < SHAPES.length; b++) {
                    all.add(new State(logic, a, b));
                }
            }
        }
        return all;
    }

    public static void main(String[] args) throws Exception {
        List<Method> tests = new ArrayList<>();
        for (Method method : NothingChangesTest.class.getDeclaredMethods()) {
            if (method.getName().startsWith("promise")) {
                tests.add(method);
            }
        }
        tests.sort(Comparator.comparing(Method::getName));
        for (Method test : tests) {
            int before = made;
            test.invoke(null);
            // A method that finds no state to make its call in would test nothing.
            if (made == before) {
                fault(test.getName() + " made no call");
            }
        }
        System.out.println(tests.size() + " tests, " + made + " calls that must change nothing, "
                + (wrong == 0 ? "all as due" : wrong + " faults"));
        if (wrong != 0) {
            System.exit(1);
        }
    }

    private static void fault(String text) {
        wrong++;
        // Enough to see the cause; a broken class would fill the screen.
        if (wrong <= 40) {
            System.out.println(text);
        }
    }

    private static void due(State state, String what, int got, int want) {
        if (got != want) {
            fault("logic " + state.logic() + ", shapes " + state.a() + " and " + state.b() + ": "
                    + what + " answered " + got + ", due is " + want);
        }
    }

    private static int bit(boolean b) {
        return b ? 1 : 0;
    }

    /** A call that the document refuses with this answer in all these states. */
    private static void refused(String call, Where where, Call asked, int want) {
        for (State state : STATES) {
            if (where.holds(state)) {
                ThreeValued x = state.object();
                due(state, call, asked.on(x), want);
                dueUnchanged(state, call, x);
            }
        }
    }

    /** A call that only asks: asked again it answers the same, and all else is as before. */
    private static void asking(String call, Call asked) {
        for (State state : STATES) {
            ThreeValued x = state.object();
            int first = asked.on(x);
            due(state, call + " again", asked.on(x), first);
            dueUnchanged(state, call, x);
        }
    }

    private static void dueUnchanged(State state, String call, ThreeValued x) {
        made++;
        String after = "after " + call + ", ";
        due(state, after + "logic()", x.logic(), state.logic());
        for (int which = A; which <= B; which++) {
            due(state, after + "complete(" + which + ")", bit(x.complete(which)), bit(state.whole(which)));
        }
        int[] got = answers(x);
        int[] want = answers(state.object());
        for (int i = 0; i < want.length; i++) {
            due(state, after + "answer " + i, got[i], want[i]);
        }
        for (int which = A; which <= B; which++) {
            dueNextFeed(state, after, x, which);
        }
        for (int which = A; which <= B; which++) {
            dueTokens(state, after, x, which);
        }
        due(state, after + "logic() at the end", x.logic(), state.logic());
    }

    /** What can be asked of the two formulas as they stand. */
    private static int[] answers(ThreeValued x) {
        List<Integer> all = new ArrayList<>();
        for (int which = A; which <= B; which++) {
            for (int assignment : new int[] {0, 1, 3, 9, 27, 40, 53, 80}) {
                all.add(x.value(which, assignment));
            }
            for (int v = 0; v < 3; v++) {
                all.add(x.find(which, v));
                all.add(x.findBoth(v, which));
            }
            for (int l = 0; l < 4; l++) {
                all.add(x.findApart(which, l));
            }
            all.add(x.values(which));
            all.add(bit(x.valid(which)));
        }
        all.add(bit(x.entails()));
        all.add(bit(x.below()));
        all.add(bit(x.alike()));
        return all.stream().mapToInt(Integer::intValue).toArray();
    }

    private static void dueNextFeed(State state, String after, ThreeValued x, int which) {
        int count = state.tokens(which).length;
        if (state.whole(which) || count == 9) {
            due(state, after + "feed(" + which + ", 7)", x.feed(which, S), NONE);
        } else {
            due(state, after + "feed(" + which + ", 7)", x.feed(which, S), count + 1);
            due(state, after + "back(" + which + ") of it", x.back(which), S);
        }
    }

    private static void dueTokens(State state, String after, ThreeValued x, int which) {
        int[] tokens = state.tokens(which);
        for (int i = tokens.length - 1; i >= 0; i--) {
            due(state, after + "back(" + which + ") at token " + i, x.back(which), tokens[i]);
        }
        due(state, after + "back(" + which + ") at the end", x.back(which), NONE);
    }

    // Promise 2: logic

    private static void promise02LogicAsks() {
        asking("logic()", x -> x.logic());
    }

    // Promise 3: setLogic

    private static void refusedLogic(int logic) {
        refused("setLogic(" + logic + ")", ANY, x -> bit(x.setLogic(logic)), FALSE);
    }

    private static void promise03LogicMinusOne() {
        refusedLogic(-1);
    }

    private static void promise03LogicThree() {
        refusedLogic(3);
    }

    private static void promise03LogicFar() {
        for (int far : FAR) {
            refusedLogic(far);
        }
    }

    private static void promise03SameLogic() {
        for (int logic = 0; logic < 3; logic++) {
            int same = logic;
            refused("setLogic(" + same + ") again", s -> s.logic() == same, x -> bit(x.setLogic(same)), 1);
        }
    }

    // Promise 4: feed

    private static void refusedFeed(int which, int token, Where where) {
        refused("feed(" + which + ", " + token + ")", where, x -> x.feed(which, token), NONE);
    }

    private static void refusedTokens(int which, Where where) {
        for (int token = NOT; token <= S; token++) {
            refusedFeed(which, token, where);
        }
    }

    private static void promise04WhichMinusOne() {
        refusedTokens(-1, ANY);
    }

    private static void promise04WhichTwo() {
        refusedTokens(2, ANY);
    }

    private static void promise04WhichFar() {
        for (int far : FAR) {
            refusedFeed(far, NOT, ANY);
            refusedFeed(far, S, ANY);
        }
    }

    private static void promise04TokenMinusOne() {
        refusedFeed(A, -1, ANY);
        refusedFeed(B, -1, ANY);
    }

    private static void promise04TokenEight() {
        refusedFeed(A, 8, ANY);
        refusedFeed(B, 8, ANY);
    }

    private static void promise04TokenFar() {
        for (int far : FAR) {
            refusedFeed(A, far, ANY);
            refusedFeed(B, far, ANY);
        }
    }

    private static void promise04WhichAndTokenWrong() {
        for (int which : new int[] {-1, 2}) {
            for (int token : new int[] {-1, 8}) {
                refusedFeed(which, token, ANY);
            }
        }
    }

    private static void promise04CompleteByOneLetter() {
        refusedTokens(A, s -> s.a() == LETTER);
        refusedTokens(B, s -> s.b() == LETTER);
    }

    private static void promise04Complete() {
        refusedTokens(A, s -> s.a() == WHOLE);
        refusedTokens(B, s -> s.b() == WHOLE);
    }

    private static void promise04NineTokensNotComplete() {
        refusedTokens(A, s -> s.a() == NINE_UNFINISHED);
        refusedTokens(B, s -> s.b() == NINE_UNFINISHED);
    }

    private static void promise04NineTokensComplete() {
        refusedTokens(A, s -> s.a() == NINE_WHOLE);
        refusedTokens(B, s -> s.b() == NINE_WHOLE);
    }

    // Promise 5: back

    private static void refusedBack(int which, Where where) {
        refused("back(" + which + ")", where, x -> x.back(which), NONE);
    }

    private static void promise05WhichMinusOne() {
        refusedBack(-1, ANY);
    }

    private static void promise05WhichTwo() {
        refusedBack(2, ANY);
    }

    private static void promise05WhichFar() {
        for (int far : FAR) {
            refusedBack(far, ANY);
        }
    }

    private static void promise05NoTokensInA() {
        refusedBack(A, s -> s.a() == EMPTY);
    }

    private static void promise05NoTokensInB() {
        refusedBack(B, s -> s.b() == EMPTY);
    }

    // Promise 6: complete

    private static void refusedComplete(int which, Where where) {
        refused("complete(" + which + ")", where, x -> bit(x.complete(which)), FALSE);
    }

    private static void promise06WhichMinusOne() {
        refusedComplete(-1, ANY);
    }

    private static void promise06WhichTwo() {
        refusedComplete(2, ANY);
    }

    private static void promise06WhichFar() {
        for (int far : FAR) {
            refusedComplete(far, ANY);
        }
    }

    private static void promise06NoTokens() {
        refusedComplete(A, s -> s.a() == EMPTY);
        refusedComplete(B, s -> s.b() == EMPTY);
    }

    private static void promise06NotComplete() {
        refusedComplete(A, s -> s.a() == UNFINISHED);
        refusedComplete(B, s -> s.b() == UNFINISHED);
    }

    private static void promise06NineTokensNotComplete() {
        refusedComplete(A, s -> s.a() == NINE_UNFINISHED);
        refusedComplete(B, s -> s.b() == NINE_UNFINISHED);
    }

    private static void promise06CompleteAsks() {
        asking("complete(0)", x -> bit(x.complete(A)));
        asking("complete(1)", x -> bit(x.complete(B)));
    }

    // Promise 7: value

    private static void refusedValue(int which, int assignment, Where where) {
        refused("value(" + which + ", " + assignment + ")", where, x -> x.value(which, assignment), NONE);
    }

    private static void promise07NoTokens() {
        for (int assignment : new int[] {0, 40, 80}) {
            refusedValue(A, assignment, s -> s.a() == EMPTY);
            refusedValue(B, assignment, s -> s.b() == EMPTY);
        }
    }

    private static void promise07NotComplete() {
        for (int assignment : new int[] {0, 40, 80}) {
            refusedValue(A, assignment, s -> !s.whole(A));
            refusedValue(B, assignment, s -> !s.whole(B));
        }
    }

    private static void promise07WhichMinusOne() {
        refusedValue(-1, 0, ANY);
        refusedValue(-1, 80, ANY);
    }

    private static void promise07WhichTwo() {
        refusedValue(2, 0, ANY);
        refusedValue(2, 80, ANY);
    }

    private static void promise07WhichFar() {
        for (int far : FAR) {
            refusedValue(far, 0, ANY);
        }
    }

    private static void promise07AssignmentMinusOne() {
        refusedValue(A, -1, ANY);
        refusedValue(B, -1, ANY);
    }

    private static void promise07Assignment81() {
        refusedValue(A, 81, ANY);
        refusedValue(B, 81, ANY);
    }

    private static void promise07AssignmentFar() {
        for (int far : FAR) {
            refusedValue(A, far, ANY);
            refusedValue(B, far, ANY);
        }
    }

    private static void promise07ValueAsks() {
        for (int assignment : new int[] {0, 40, 80}) {
            asking("value(0, " + assignment + ")", x -> x.value(A, assignment));
            asking("value(1, " + assignment + ")", x -> x.value(B, assignment));
        }
    }

    // Promise 8: find

    private static void refusedFind(int which, int v, Where where) {
        refused("find(" + which + ", " + v + ")", where, x -> x.find(which, v), NONE);
    }

    private static void promise08NoTokens() {
        for (int v = 0; v < 3; v++) {
            refusedFind(A, v, s -> s.a() == EMPTY);
            refusedFind(B, v, s -> s.b() == EMPTY);
        }
    }

    private static void promise08NotComplete() {
        for (int v = 0; v < 3; v++) {
            refusedFind(A, v, s -> !s.whole(A));
            refusedFind(B, v, s -> !s.whole(B));
        }
    }

    private static void promise08WhichMinusOne() {
        for (int v = 0; v < 3; v++) {
            refusedFind(-1, v, ANY);
        }
    }

    private static void promise08WhichTwo() {
        for (int v = 0; v < 3; v++) {
            refusedFind(2, v, ANY);
        }
    }

    private static void promise08WhichFar() {
        for (int far : FAR) {
            refusedFind(far, 0, ANY);
        }
    }

    private static void promise08ValueMinusOne() {
        refusedFind(A, -1, ANY);
        refusedFind(B, -1, ANY);
    }

    private static void promise08ValueThree() {
        refusedFind(A, 3, ANY);
        refusedFind(B, 3, ANY);
    }

    private static void promise08ValueFar() {
        for (int far : FAR) {
            refusedFind(A, far, ANY);
            refusedFind(B, far, ANY);
        }
    }

    private static void promise08FindAsks() {
        for (int v = 0; v < 3; v++) {
            int given = v;
            asking("find(0, " + v + ")", x -> x.find(A, given));
            asking("find(1, " + v + ")", x -> x.find(B, given));
        }
    }

    // Promise 9: values

    private static void refusedValues(int which, Where where) {
        refused("values(" + which + ")", where, x -> x.values(which), 0);
    }

    private static void promise09NoTokens() {
        refusedValues(A, s -> s.a() == EMPTY);
        refusedValues(B, s -> s.b() == EMPTY);
    }

    private static void promise09NotComplete() {
        refusedValues(A, s -> !s.whole(A));
        refusedValues(B, s -> !s.whole(B));
    }

    private static void promise09WhichMinusOne() {
        refusedValues(-1, ANY);
    }

    private static void promise09WhichTwo() {
        refusedValues(2, ANY);
    }

    private static void promise09WhichFar() {
        for (int far : FAR) {
            refusedValues(far, ANY);
        }
    }

    private static void promise09ValuesAsks() {
        asking("values(0)", x -> x.values(A));
        asking("values(1)", x -> x.values(B));
    }

    // Promise 10: valid

    private static void refusedValid(int which, Where where) {
        refused("valid(" + which + ")", where, x -> bit(x.valid(which)), FALSE);
    }

    private static void promise10NoTokens() {
        refusedValid(A, s -> s.a() == EMPTY);
        refusedValid(B, s -> s.b() == EMPTY);
    }

    private static void promise10NotComplete() {
        refusedValid(A, s -> !s.whole(A));
        refusedValid(B, s -> !s.whole(B));
    }

    // Promise 10 names no wrong which, but asks for a complete formula, and promise 6
    // says that none is complete there.
    private static void promise10WhichWrong() {
        refusedValid(-1, ANY);
        refusedValid(2, ANY);
        for (int far : FAR) {
            refusedValid(far, ANY);
        }
    }

    private static void promise10ValidAsks() {
        asking("valid(0)", x -> bit(x.valid(A)));
        asking("valid(1)", x -> bit(x.valid(B)));
    }

    // Promise 11: findBoth

    private static void refusedFindBoth(int v, int w, Where where) {
        refused("findBoth(" + v + ", " + w + ")", where, x -> x.findBoth(v, w), NONE);
    }

    private static void refusedFindBothOfAny(Where where) {
        for (int v = 0; v < 3; v++) {
            for (int w = 0; w < 3; w++) {
                refusedFindBoth(v, w, where);
            }
        }
    }

    private static void refusedFindBothBeside(int bad) {
        for (int good = 0; good < 3; good++) {
            refusedFindBoth(bad, good, ANY);
            refusedFindBoth(good, bad, ANY);
        }
        refusedFindBoth(bad, bad, ANY);
    }

    private static void promise11OnlyANotComplete() {
        refusedFindBothOfAny(s -> !s.whole(A) && s.whole(B));
    }

    private static void promise11OnlyBNotComplete() {
        refusedFindBothOfAny(s -> s.whole(A) && !s.whole(B));
    }

    private static void promise11NeitherComplete() {
        refusedFindBothOfAny(s -> !s.whole(A) && !s.whole(B));
    }

    private static void promise11ValueMinusOne() {
        refusedFindBothBeside(-1);
    }

    private static void promise11ValueThree() {
        refusedFindBothBeside(3);
    }

    private static void promise11ValueFar() {
        for (int far : FAR) {
            refusedFindBoth(far, 0, ANY);
            refusedFindBoth(0, far, ANY);
        }
    }

    private static void promise11FindBothAsks() {
        asking("findBoth(0, 2)", x -> x.findBoth(0, 2));
        asking("findBoth(1, 1)", x -> x.findBoth(1, 1));
        asking("findBoth(2, 0)", x -> x.findBoth(2, 0));
    }

    // Promises 12 to 14: entails, below, alike

    private static void falseUnlessBothWhole(String call, Call asked) {
        refused(call, s -> !s.whole(A) && s.whole(B), asked, FALSE);
        refused(call, s -> s.whole(A) && !s.whole(B), asked, FALSE);
        refused(call, s -> !s.whole(A) && !s.whole(B), asked, FALSE);
    }

    private static void promise12NotComplete() {
        falseUnlessBothWhole("entails()", x -> bit(x.entails()));
    }

    private static void promise12EntailsAsks() {
        asking("entails()", x -> bit(x.entails()));
    }

    private static void promise13NotComplete() {
        falseUnlessBothWhole("below()", x -> bit(x.below()));
    }

    private static void promise13BelowAsks() {
        asking("below()", x -> bit(x.below()));
    }

    private static void promise14NotComplete() {
        falseUnlessBothWhole("alike()", x -> bit(x.alike()));
    }

    private static void promise14AlikeAsks() {
        asking("alike()", x -> bit(x.alike()));
    }

    private static void promise14SameFormula() {
        refused("alike() of the same tokens", s -> s.whole(A) && s.a() == s.b(), x -> bit(x.alike()), 1);
    }

    // Promise 15: findApart

    private static void refusedFindApart(int which, int l, Where where) {
        refused("findApart(" + which + ", " + l + ")", where, x -> x.findApart(which, l), NONE);
    }

    private static void promise15NoTokens() {
        for (int l = 0; l < 4; l++) {
            refusedFindApart(A, l, s -> s.a() == EMPTY);
            refusedFindApart(B, l, s -> s.b() == EMPTY);
        }
    }

    private static void promise15NotComplete() {
        for (int l = 0; l < 4; l++) {
            refusedFindApart(A, l, s -> !s.whole(A));
            refusedFindApart(B, l, s -> !s.whole(B));
        }
    }

    private static void promise15WhichMinusOne() {
        for (int l = 0; l < 4; l++) {
            refusedFindApart(-1, l, ANY);
        }
    }

    private static void promise15WhichTwo() {
        for (int l = 0; l < 4; l++) {
            refusedFindApart(2, l, ANY);
        }
    }

    private static void promise15WhichFar() {
        for (int far : FAR) {
            refusedFindApart(far, 0, ANY);
        }
    }

    private static void promise15LetterMinusOne() {
        refusedFindApart(A, -1, ANY);
        refusedFindApart(B, -1, ANY);
    }

    private static void promise15LetterFour() {
        refusedFindApart(A, 4, ANY);
        refusedFindApart(B, 4, ANY);
    }

    private static void promise15LetterFar() {
        for (int far : FAR) {
            refusedFindApart(A, far, ANY);
            refusedFindApart(B, far, ANY);
        }
    }

    private static void promise15NoneApart() {
        refusedFindApart(A, 3, s -> s.a() == LETTER);
        refusedFindApart(B, 3, s -> s.b() == LETTER);
    }

    private static void promise15FindApartAsks() {
        for (int l = 0; l < 4; l++) {
            int given = l;
            asking("findApart(0, " + l + ")", x -> x.findApart(A, given));
            asking("findApart(1, " + l + ")", x -> x.findApart(B, given));
        }
    }
}
