import java.util.ArrayList;
import java.util.List;

/**
 * Long runs of calls, right and wrong ones mixed, against a second, recursive
 * reading of the document. The runs are the same each time: they come from a
 * counter that is stirred, not from a random source.
 */
public final class ModelTest {
    private static final int RUNS = 3000;
    // The document promises nothing after the 512th call.
    private static final int CALLS = 512;
    private static final int NONE = -1;

    private static final int[] NEAR = {0, 1, 2, 3, 4, 7, 8, -1, 80, 81, Integer.MIN_VALUE, Integer.MAX_VALUE};

    private static long stirred = 1;
    private static int wrong = 0;

    private final ThreeValued real;
    private final List<List<Integer>> formulas = List.of(new ArrayList<>(), new ArrayList<>());
    private int logic;
    private int at;
    private int calls;

    private ModelTest(int given) {
        real = new ThreeValued(given);
        logic = given < 0 ? 0 : given > 2 ? 2 : given;
    }

    public static void main(String[] args) {
        int longFormulas = 0;
        for (int run = 0; run < RUNS && wrong < 20; run++) {
            ModelTest test = new ModelTest(run % 8 == 7 ? odd() : run % 3);
            while (test.calls < CALLS && wrong < 20) {
                test.oneCall();
                if (test.whole(0) && test.whole(1) && test.size(0) + test.size(1) >= 8) {
                    longFormulas++;
                }
            }
        }
        // Runs that stay among unfinished formulas or lone letters would test little.
        if (longFormulas < RUNS * CALLS / 5 && wrong == 0) {
            wrong++;
            System.out.println("too few calls on two long formulas: " + longFormulas);
        }
        System.out.println(wrong == 0 ? "all runs are as the model" : "runs part from the model");
        if (wrong != 0) {
            System.exit(1);
        }
    }

    private static int upTo(int bound) {
        stirred = stirred * 6364136223846793005L + 1442695040888963407L;
        return (int) ((stirred >>> 33) % bound);
    }

    private static int odd() {
        return NEAR[upTo(NEAR.length)];
    }

    /** Mostly one of the right arguments, now and then any number near or far. */
    private static int mostly(int bound) {
        return upTo(16) == 0 ? odd() : upTo(bound);
    }

    private void oneCall() {
        int which = mostly(2);
        switch (upTo(24)) {
            case 0 -> due("logic", 0, 0, real.logic(), logic);
            case 1 -> callSetLogic(mostly(3));
            case 2 -> takeAway(which);
            case 3 -> due("complete", which, 0, bit(real.complete(which)), bit(whole(which)));
            case 4 -> callValue(which, mostly(81));
            case 5 -> callFind(which, mostly(3));
            case 6 -> due("values", which, 0, real.values(which), values(which));
            case 7 -> due("valid", which, 0, bit(real.valid(which)), bit(values(which) == 4));
            case 8 -> callFindBoth(mostly(3), mostly(3));
            case 9 -> due("entails", 0, 0, bit(real.entails()), bit(never(6, 7)));
            case 10 -> due("below", 0, 0, bit(real.below()), bit(never(3, 6, 7)));
            case 11 -> due("alike", 0, 0, bit(real.alike()), bit(never(1, 2, 3, 5, 6, 7)));
            case 12 -> callFindApart(which, mostly(4));
            default -> callFeed(which, nextToken(which));
        }
    }

    private static int bit(boolean b) {
        return b ? 1 : 0;
    }

    private void due(String call, int first, int second, int got, int want) {
        calls++;
        if (got != want) {
            wrong++;
            System.out.println(call + "(" + first + ", " + second + ") in logic " + logic + " on "
                    + formulas + " answered " + got + ", due is " + want);
        }
    }

    private void callSetLogic(int next) {
        boolean right = next == 0 || next == 1 || next == 2;
        due("setLogic", next, 0, bit(real.setLogic(next)), bit(right));
        if (right) {
            logic = next;
        }
    }

    private void callFeed(int which, int token) {
        int want = NONE;
        boolean right = named(which) && token >= 0 && token <= 7;
        if (right && !whole(which) && formulas.get(which).size() < 9) {
            formulas.get(which).add(token);
            want = formulas.get(which).size();
        }
        due("feed", which, token, real.feed(which, token), want);
    }

    private void callBack(int which) {
        int want = NONE;
        if (named(which) && !formulas.get(which).isEmpty()) {
            want = formulas.get(which).remove(formulas.get(which).size() - 1);
        }
        due("back", which, 0, real.back(which), want);
    }

    private void takeAway(int which) {
        int most = 1 + upTo(9);
        for (int i = 0; i < most && calls < CALLS; i++) {
            callBack(which);
        }
    }

    /** Connectives first and letters later, so that long formulas come to be and are completed. */
    private int nextToken(int which) {
        if (upTo(4) == 0) {
            return mostly(8);
        }
        return size(which) < 3 ? upTo(4) : 4 + upTo(4);
    }

    private int size(int which) {
        return named(which) ? formulas.get(which).size() : 0;
    }

    private void callValue(int which, int assignment) {
        boolean right = whole(which) && assignment >= 0 && assignment <= 80;
        due("value", which, assignment, real.value(which, assignment), right ? value(which, assignment) : NONE);
    }

    private void callFind(int which, int v) {
        int want = NONE;
        for (int a = 80; a >= 0 && whole(which); a--) {
            want = value(which, a) == v ? a : want;
        }
        due("find", which, v, real.find(which, v), want);
    }

    private void callFindBoth(int v, int w) {
        int want = NONE;
        for (int a = 80; a >= 0 && whole(0) && whole(1); a--) {
            want = value(0, a) == v && value(1, a) == w ? a : want;
        }
        due("findBoth", v, w, real.findBoth(v, w), want);
    }

    private void callFindApart(int which, int l) {
        int want = NONE;
        for (int a = 80; a >= 0 && whole(which) && l >= 0 && l <= 3; a--) {
            want = value(which, a) != letter(l, a) ? a : want;
        }
        due("findApart", which, l, real.findApart(which, l), want);
    }

    private boolean named(int which) {
        return which == 0 || which == 1;
    }

    private boolean whole(int which) {
        if (!named(which)) {
            return false;
        }
        at = 0;
        return skip(formulas.get(which)) && at == formulas.get(which).size();
    }

    private boolean skip(List<Integer> list) {
        if (at >= list.size()) {
            return false;
        }
        int token = list.get(at++);
        return switch (token) {
            case 0 -> skip(list);
            case 1, 2, 3 -> skip(list) && skip(list);
            default -> true;
        };
    }

    private int values(int which) {
        int seen = 0;
        for (int a = 0; a <= 80 && whole(which); a++) {
            seen |= 1 << value(which, a);
        }
        return seen;
    }

    /** Whether both formulas are complete and never have the values that a pair 3 * v + w names. */
    private boolean never(int... pairs) {
        if (!whole(0) || !whole(1)) {
            return false;
        }
        for (int a = 0; a <= 80; a++) {
            for (int pair : pairs) {
                if (3 * value(0, a) + value(1, a) == pair) {
                    return false;
                }
            }
        }
        return true;
    }

    private int value(int which, int assignment) {
        at = 0;
        return part(formulas.get(which), assignment);
    }

    private int part(List<Integer> list, int assignment) {
        int token = list.get(at++);
        if (token >= 4) {
            return letter(token - 4, assignment);
        }
        int x = part(list, assignment);
        if (token == 0) {
            return logic < 2 ? 2 - x : x == 0 ? 2 : 0;
        }
        int y = part(list, assignment);
        return switch (token) {
            case 1 -> Math.min(x, y);
            case 2 -> Math.max(x, y);
            default -> implies(x, y);
        };
    }

    private int implies(int x, int y) {
        return switch (logic) {
            case 0 -> Math.min(2, 2 - x + y);
            case 1 -> Math.max(2 - x, y);
            default -> x <= y ? 2 : y;
        };
    }

    private static int letter(int l, int assignment) {
        int[] digits = {assignment % 3, assignment / 3 % 3, assignment / 9 % 3, assignment / 27};
        return digits[l];
    }
}
