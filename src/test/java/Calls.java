import java.util.ArrayList;
import java.util.List;

/** Makes runs of calls from a seed, always the same for the same seed, and gives them to an object. */
final class Calls {
    static final int NUM = 0;
    static final int VAR = 1;
    static final int LAM = 2;
    static final int APP = 3;
    static final int PRIM = 4;
    static final int IF = 5;
    static final int LET = 6;
    static final int LETREC = 7;
    static final int RUN = 8;
    static final int CALL_RESULT = 9;
    static final int CLEAR = 10;
    static final int RESULT_KIND = 11;
    static final int RESULT_VALUE = 12;
    static final int CALLS_USED = 13;
    static final int PEAK_LIVE = 14;
    static final int FREE_VARS = 15;
    private static final int METHODS = 16;
    private static final int INT = 0;
    private static final int FUNCTION = 1;
    private static final String[] NAMES = {"pushNum", "pushVar", "pushLam", "pushApp", "pushPrim", "pushIf",
        "pushLet", "pushLetrec", "run", "callResult", "clear", "resultKind", "resultValue", "callsUsed",
        "peakLive", "freeVars"};

    final List<int[]> made = new ArrayList<>();
    private long state;

    Calls(long seed) {
        state = seed * 0x9E3779B97F4A7C15L + 12345;
    }

    int below(int bound) {
        state = state * 6364136223846793005L + 1442695040888963407L;
        return (int) ((state >>> 33) % bound);
    }

    private void add(int method, int a, int b) {
        made.add(new int[] {method, a, b});
    }

    static String name(int[] call) {
        return NAMES[call[0]] + "(" + call[1] + ", " + call[2] + ")";
    }

    static int give(SafeClosures x, int[] call) {
        switch (call[0]) {
            case NUM: return x.pushNum(call[1]);
            case VAR: return x.pushVar(call[1]);
            case LAM: return x.pushLam(call[1]);
            case APP: return x.pushApp();
            case PRIM: return x.pushPrim(call[1]);
            case IF: return x.pushIf();
            case LET: return x.pushLet(call[1]);
            case LETREC: return x.pushLetrec(call[1], call[2]);
            case RUN: return x.run();
            case CALL_RESULT: return x.callResult(call[1]);
            case CLEAR: x.clear(); return 0;
            case RESULT_KIND: return x.resultKind();
            case RESULT_VALUE: return x.resultValue();
            case CALLS_USED: return x.callsUsed();
            case PEAK_LIVE: return x.peakLive();
            default: return x.freeVars(call[1]);
        }
    }

    /** Whether this is the answer of a run or callResult that a limit ended. */
    static boolean isCutShort(int[] call, int answer) {
        return (call[0] == RUN || call[0] == CALL_RESULT) && answer >= SafeClosures.ERR_FUEL;
    }

    /** Calls of any method with any arguments, mostly small ones. */
    Calls anyhow(int count) {
        for (int i = 0; i < count; i++) {
            int method = below(METHODS);
            if (method == CLEAR && below(8) != 0) {
                method = below(RUN);
            }
            add(method, argument(), argument());
        }
        return this;
    }

    private int argument() {
        switch (below(20)) {
            case 0: return Integer.MIN_VALUE;
            case 1: return Integer.MAX_VALUE;
            case 2: return below(70) - 35;
            default: return below(11) - 2;
        }
    }

    /** Some programs that mean something, each run, its closures called, and grown. */
    Calls programs(int count) {
        for (int i = 0; i < count; i++) {
            int size = 3 + below(30);
            int left = 32 - expression(size, 0, below(3) == 0 ? INT : FUNCTION);
            runAndCall();
            for (int wraps = below(3); wraps > 0 && left >= 2; wraps--) {
                add(NUM, below(5), 0);
                add(below(2) == 0 ? APP : PRIM, below(5), 0);
                left -= 2;
                runAndCall();
            }
            if (below(4) == 0) {
                anyhow(6);
            }
            add(CLEAR, 0, 0);
        }
        return this;
    }

    private void runAndCall() {
        add(RUN, 0, 0);
        look();
        for (int calls = below(6); calls > 0; calls--) {
            add(CALL_RESULT, below(5) == 0 ? below(40) : below(4), 0);
            look();
        }
    }

    private void look() {
        for (int method = RESULT_KIND; method <= PEAK_LIVE; method++) {
            add(method, 0, 0);
        }
        add(FREE_VARS, below(34) - 1, 0);
    }

    /** Pushes an expression of at most so many nodes over the variables in scope; answers how many it has. */
    private int expression(int most, int scope, int wanted) {
        int want = below(12) == 0 ? 1 - wanted : wanted;
        if (most < 3 || below(8) == 0) {
            return leaf(most, scope, want);
        }
        switch (below(want == FUNCTION ? 9 : 12)) {
            case 0: return conditional(most, scope, want);
            case 1: return let(most, scope, want);
            case 2: return letrec(most, scope, want);
            case 3: return letrecTwo(most, scope, want);
            case 4: case 5: return application(most, scope);
            case 6: case 7: case 8: return want == FUNCTION ? lambda(most, scope) : application(most, scope);
            default: return primitive(most, scope);
        }
    }

    private int leaf(int most, int scope, int want) {
        int x = below(5);
        for (int tries = 0; tries < 5; tries++) {
            if ((scope >> x & 1) != 0 && below(4) != 0) {
                add(VAR, x, 0);
                return 1;
            }
            x = (x + 1) % 5;
        }
        if (want == FUNCTION && most >= 2) {
            return lambda(most, scope);
        }
        add(NUM, below(6) - 1, 0);
        return 1;
    }

    private int lambda(int most, int scope) {
        int x = below(5);
        int size = expression(most - 1, scope | 1 << x, below(2));
        add(LAM, x, 0);
        return size + 1;
    }

    private int application(int most, int scope) {
        int size = expression(1 + below(most - 2), scope, FUNCTION);
        size += expression(most - 1 - size, scope, below(2));
        add(APP, 0, 0);
        return size + 1;
    }

    private int primitive(int most, int scope) {
        int size = expression(1 + below(most - 2), scope, INT);
        size += expression(most - 1 - size, scope, INT);
        add(PRIM, below(5), 0);
        return size + 1;
    }

    private int conditional(int most, int scope, int want) {
        if (most < 4) {
            return primitive(most, scope);
        }
        int size = expression(1 + below(most - 3), scope, INT);
        size += expression(1 + below(most - 2 - size), scope, want);
        size += expression(most - 1 - size, scope, want);
        add(IF, 0, 0);
        return size + 1;
    }

    private int let(int most, int scope, int want) {
        int x = below(5);
        int size = expression(1 + below(most - 2), scope, below(3) == 0 ? INT : FUNCTION);
        size += expression(most - 1 - size, scope | 1 << x, want);
        add(LET, x, 0);
        return size + 1;
    }

    private int letrec(int most, int scope, int want) {
        if (most < 4) {
            return let(most, scope, want);
        }
        int x = below(5);
        int inner = scope | 1 << x;
        int size = lambda(2 + below(most - 3), inner);
        size += expression(most - 1 - size, inner, want);
        add(LETREC, x, -1);
        return size + 1;
    }

    private int letrecTwo(int most, int scope, int want) {
        if (most < 6) {
            return letrec(most, scope, want);
        }
        int x = below(5);
        int y = (x + 1 + below(4)) % 5;
        int inner = scope | 1 << x | 1 << y;
        int size = lambda(2 + below(most - 5), inner);
        size += lambda(2 + below(most - 3 - size), inner);
        size += expression(most - 1 - size, inner, want);
        add(LETREC, x, y);
        return size + 1;
    }
}
