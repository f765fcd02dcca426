/** Whole programs: scopes, recursion, curried and repeated calls, and the largest runs that the limits allow. */
public final class ProgramTest {
    private static final int OK = SafeClosures.OK;
    private static final int NONE = SafeClosures.KIND_NONE;
    private static final int INT = SafeClosures.KIND_INT;
    private static final int CLOSURE = SafeClosures.KIND_CLOSURE;
    private static final String LOOP = "(letrec v0 (lam v1 (app v0 v1)) (app v0 1))";

    public static void main(String[] args) {
        Check.sentence("Promises 10 to 15, whole programs");
        scopes();
        recursion();
        orderOfEvaluation();
        programsGrow();
        curriedCalls();
        errorsOfCalls();
        manyCalls();
        longestRun();
        pendingFrames();
        liveClosures();
        mostClosures();
        runsAfterTheMostClosures();
        Check.end();
    }

    private static void scopes() {
        Check.gives("(let v0 3 (+ v0 v0))", 6, 0, 0);
        Check.gives("(let v0 1 (+ v0 (let v0 5 v0)))", 6, 0, 0);
        Check.gives("(app (lam v0 (app (lam v0 (+ v0 1)) (* v0 2))) 5)", 11, 2, 1);
        Check.gives("(let v0 7 (app (lam v1 v0) 3))", 7, 1, 1);
        Check.gives("(let v7 7 (let v0 1 (if v0 v7 v0)))", 7, 0, 0);
        Check.gives("(let v3 (lam v1 v1) (let v3 5 v3))", 5, 0, 1);
        Check.gives("(let v3 5 (app (let v3 (lam v1 (+ v1 1)) v3) v3))", 6, 1, 1);
        Check.gives("(app (app (app (lam v0 (lam v1 (lam v2 (- (- v0 v1) v2)))) 10) 3) 2)", 5, 3, 1);
        Check.gives("(- (- 10 4) (- 3 1))", 4, 0, 0);
        Check.gives("(if (< 3 2) 10 (if (= 2 2) 20 30))", 20, 0, 0);
    }

    private static void recursion() {
        Check.gives("(letrec v0 (lam v1 (if v1 (* v1 (app v0 (- v1 1))) 1)) (app v0 5))", 120, 6, 1);
        Check.gives("(letrec v0 (lam v1 (if (< v1 2) v1 (+ (app v0 (- v1 1)) (app v0 (- v1 2))))) (app v0 7))",
            13, 41, 1);
        String even = "(lam v2 (if v2 (app v1 (- v2 1)) 1))";
        String odd = "(lam v2 (if v2 (app v0 (- v2 1)) 0))";
        Check.gives("(letrec2 v0 " + even + " v1 " + odd + " (app v0 11))", 0, 12, 2);
        Check.gives("(letrec2 v0 " + even + " v1 " + odd + " (app v0 10))", 1, 11, 2);
        Check.gives("(letrec2 v0 " + even + " v1 " + odd + " (app v1 10))", 0, 11, 2);
        Check.gives("(letrec2 v5 (lam v0 (+ v0 1)) v6 (lam v0 (* v0 2)) (app v5 (app v6 4)))", 9, 2, 2);
    }

    /** The first error in the order of evaluation is the one that is answered. */
    private static void orderOfEvaluation() {
        Check.fails("(+ (app 1 2) (+ (lam v0 v0) 1))", SafeClosures.ERR_NOT_FUNCTION, 0, 0);
        Check.fails("(+ (+ (lam v0 v0) 1) (app 1 2))", SafeClosures.ERR_TYPE, 0, 1);
        Check.fails("(app (app 1 2) (+ (lam v0 v0) 1))", SafeClosures.ERR_NOT_FUNCTION, 0, 0);
        Check.fails("(app " + LOOP + " (+ (lam v0 v0) 1))", SafeClosures.ERR_FUEL, 100, 1);
        Check.gives("(let v0 (lam v1 (app 1 2)) 6)", 6, 0, 1);
        Check.fails("(let v0 (app 1 2) 6)", SafeClosures.ERR_NOT_FUNCTION, 0, 0);
        Check.fails("(let v0 5 (app v0 v0))", SafeClosures.ERR_NOT_FUNCTION, 0, 0);
    }

    private static void programsGrow() {
        SafeClosures x = State.items("(letrec v0 (lam v1 (if v1 (* v1 (app v0 (- v1 1))) 1)) (app v0 5))");
        for (int i = 0; i <= 8; i++) {
            Check.same("run() with " + i + " added", x.run(), OK);
            Check.left("run() with " + i + " added", x, INT, 120 + i, 6, 1);
            x.pushNum(1);
            x.pushPrim(SafeClosures.OP_ADD);
        }
    }

    private static void curriedCalls() {
        SafeClosures x = State.ran("(app (lam v0 (lam v1 (lam v2 (- v0 (* v1 v2))))) 100)");
        Check.left("curried, run", x, CLOSURE, 6, 1, 1);
        Check.same("curried, callResult(4)", x.callResult(4), OK);
        Check.left("curried, callResult(4)", x, CLOSURE, 5, 1, 1);
        Check.same("curried, callResult(6)", x.callResult(6), OK);
        Check.left("curried, callResult(6)", x, INT, 76, 1, 0);
        SafeClosures self = State.ran("(letrec v0 (lam v1 (if v1 v0 5)) v0)");
        Check.same("itself", self.callResult(1), OK);
        Check.left("itself", self, CLOSURE, 4, 1, 0);
        Check.same("itself, again", self.callResult(0), OK);
        Check.left("itself, again", self, INT, 5, 1, 0);
        SafeClosures captured = State.ran("(app (lam v0 (lam v1 v0)) (lam v2 v2))");
        Check.same("the captured closure", captured.callResult(1), OK);
        Check.left("the captured closure", captured, CLOSURE, 4, 1, 0);
        Check.same("the captured closure called", captured.callResult(6), OK);
        Check.left("the captured closure called", captured, INT, 6, 1, 0);
    }

    private static void callEnds(int fuel, int live, int depth, String text, int status, int calls, int peak) {
        SafeClosures x = Source.object(fuel, live, depth, text);
        for (int i = 0; i < 3; i++) {
            Check.same(text + ": run()", x.run(), OK);
            Check.same(text + ": callResult(1)", x.callResult(1), status);
            Check.left(text + ": callResult(1)", x, NONE, 0, calls, peak);
        }
    }

    private static void errorsOfCalls() {
        callEnds(7, 2, 4, "(letrec v0 (lam v1 (app v0 v1)) v0)", SafeClosures.ERR_FUEL, 7, 0);
        callEnds(100, 2, 4, "(letrec v0 (lam v1 (+ 1 (app v0 v1))) v0)", SafeClosures.ERR_DEPTH, 4, 0);
        callEnds(100, 2, 4, "(lam v0 (+ v0 (lam v1 v1)))", SafeClosures.ERR_TYPE, 1, 1);
        callEnds(100, 2, 4, "(lam v0 (app v0 (lam v1 v1)))", SafeClosures.ERR_NOT_FUNCTION, 1, 1);
        callEnds(100, 2, 4, "(lam v0 (let v1 (lam v2 v2) (let v2 (lam v3 v1) (lam v4 v2))))",
            SafeClosures.ERR_MEMORY, 1, 3);
    }

    /** The held closure is replaced at every call, and the closures before it must make room. */
    private static void manyCalls() {
        SafeClosures x = Source.object(2, 2, 4, "(app (letrec v0 (lam v1 (lam v2 (app v0 (+ v1 v2)))) v0) 0)");
        Check.same("adder: run()", x.run(), OK);
        Check.left("adder", x, CLOSURE, 5, 1, 2);
        for (int i = 0; i < 5000; i++) {
            Check.same("adder, call " + i, x.callResult(i), OK);
            Check.left("adder, call " + i, x, CLOSURE, 5, 2, 2);
        }
        SafeClosures chain = State.ran("(letrec v0 (lam v1 (lam v2 (if v2 (app v0 (lam v3 v1)) v1))) (app v0 7))");
        Check.left("chain", chain, CLOSURE, 7, 1, 2);
        for (int i = 1; i <= 30; i++) {
            Check.same("chain, call " + i, chain.callResult(1), OK);
            Check.left("chain, call " + i, chain, CLOSURE, 7, 2, i + 2);
        }
        Check.same("chain, too long", chain.callResult(1), SafeClosures.ERR_MEMORY);
        Check.left("chain, too long", chain, NONE, 0, 2, 33);
    }

    /** Some 4,700 steps: 31 nodes, nearly all of them evaluated again at every one of the 100 calls. */
    private static void longestRun() {
        String zero = "(- v1 v1)";
        String less = "(- (- (- (- v1 (+ 1 0)) " + zero + ") " + zero + ") (- " + zero + " " + zero + "))";
        Check.gives("(letrec v0 (lam v1 (if v1 (app v0 " + less + ") 42)) (app v0 99))", 42, 100, 1);
    }

    private static void needsFrames(String text, int most) {
        SafeClosures fits = Source.object(100, 32, most, text);
        Check.same("with " + most + " frames: " + text, fits.run(), OK);
        SafeClosures less = Source.object(100, 32, most - 1, text);
        Check.same("with " + (most - 1) + " frames: " + text, less.run(), SafeClosures.ERR_DEPTH);
        SafeClosures more = State.ran(text);
        Check.same("the same kind: " + text, fits.resultKind(), more.resultKind());
        Check.same("the same value: " + text, fits.resultValue(), more.resultValue());
    }

    private static void pendingFrames() {
        needsFrames("(+ 1 (+ 1 (+ 1 (+ 1 (+ 1 1)))))", 5);
        needsFrames("(+ (+ (+ (+ (+ 1 1) 1) 1) 1) 1)", 5);
        needsFrames("(if (if (if (if (if 1 1 1) 1 1) 1 1) 1 1) 1 1)", 5);
        needsFrames("(let v0 (let v0 (let v0 (let v0 (let v0 1 v0) v0) v0) v0) v0)", 5);
        String to = "(app (lam v0 v0) ";
        needsFrames(to + to + to + to + to + "1)))))", 5);
        needsFrames("(app (app (app (app (app (lam v0 (lam v0 (lam v0 (lam v0 (lam v0 v0))))) 1) 1) 1) 1) 1)", 5);
        needsFrames("(+ 1 (+ 1 (app (lam v0 (if v0 (+ 1 (let v1 (* 2 v0) v1)) 0)) 4)))", 5);
    }

    private static void liveClosures() {
        Check.gives("(app (lam v0 (+ (app v0 1) (app v0 2))) (lam v1 (* v1 v1)))", 5, 3, 2);
        Check.gives("(let v0 (lam v1 v1) (+ (app v0 1) (app (lam v2 2) 3)))", 3, 2, 1);
        Check.gives("(app (lam v0 (app (lam v1 (app (lam v2 2) 0)) 3)) 3)", 2, 3, 1);
        String compose = "(lam v0 (lam v1 (lam v2 (app v0 (app v1 v2)))))";
        Check.gives("(app (app (app " + compose + " (lam v3 (+ v3 1))) (lam v4 (* v4 2))) 5)", 11, 5, 3);
    }

    /** Thirty closures in a chain, two of one LETREC, and where the limit is exceeded two more. */
    private static void mostClosures() {
        String turn = "(app (app (letrec v0 (lam v1 (lam v2 (if v1 (app (app v0 (- v1 1)) (lam v3 v2)) ";
        String pair = "(letrec2 v4 (lam v3 v5) v5 (lam v3 v2) v4)";
        SafeClosures full = State.items(turn + pair + "))) v0) 30) 7)");
        String four = "(let v2 (lam v3 v2) (let v2 (lam v3 v2) " + pair + "))";
        SafeClosures beyond = State.items(turn + four + "))) v0) 30) 7)");
        for (int i = 0; i < 3; i++) {
            Check.same("thirty-two", full.run(), OK);
            Check.left("thirty-two", full, CLOSURE, full.resultValue(), 62, 32);
            Check.same("thirty-four", beyond.run(), SafeClosures.ERR_MEMORY);
            Check.left("thirty-four", beyond, NONE, 0, 62, 34);
        }
    }

    /** A run that ended with as many closures as there can be leaves all of them to the next run. */
    private static void runsAfterTheMostClosures() {
        SafeClosures x = State.items("(letrec2 v0 (lam v1 (app v0 (lam v2 v1))) v3 (lam v1 1) (app v0 1))");
        for (int i = 0; i < 3; i++) {
            Check.same("a chain without end: run()", x.run(), SafeClosures.ERR_MEMORY);
            Check.left("a chain without end", x, NONE, 0, 32, 33);
        }
        String first = "(lam v1 (if v1 (lam v2 (app v0 (lam v4 v2))) v3))";
        SafeClosures held = State.items("(letrec2 v0 " + first + " v3 (lam v1 1) v0)");
        for (int i = 0; i < 40; i++) {
            Check.same("a pair: run()", held.run(), OK);
            Check.left("a pair", held, CLOSURE, 8, 0, 2);
            Check.same("a pair: callResult(0)", held.callResult(0), OK);
            Check.left("a pair: callResult(0)", held, CLOSURE, 10, 1, 0);
        }
    }
}
