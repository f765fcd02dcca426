/** Promises 10, 11 and 13 to 15: run, callResult and what they leave. */
public final class RunTest {
    private static final int R = SafeClosures.REFUSED;
    private static final int OK = SafeClosures.OK;
    private static final int NONE = SafeClosures.KIND_NONE;
    private static final int INT = SafeClosures.KIND_INT;
    private static final int CLOSURE = SafeClosures.KIND_CLOSURE;
    private static final String LOOP = "(letrec v0 (lam v1 (app v0 v1)) (app v0 1))";

    public static void main(String[] args) {
        runNeedsOneItem();
        refusedRunChangesNothing();
        unboundRoot();
        arithmetic();
        scopes();
        recursion();
        typeErrors();
        notFunctions();
        orderOfEvaluation();
        runsRepeat();
        errorsLeaveNoResult();
        callResultNeedsAClosure();
        callResultAppliesTheClosure();
        callResultErrors();
        callResultLeavesTheProgram();
        manyCalls();
        fuel();
        longestRun();
        depth();
        tailCalls();
        liveClosures();
        liveLimit();
        answersChangeNothing();
        Check.end();
    }

    private static SafeClosures object(String text) {
        return Source.object(100, 32, 32, text);
    }

    private static void runNeedsOneItem() {
        SafeClosures x = new SafeClosures(100, 32, 32);
        Check.same("10 no item", x.run(), R);
        x.pushNum(1);
        Check.same("10 one item", x.run(), OK);
        x.pushNum(2);
        Check.same("10 two items", x.run(), R);
        x.pushNum(3);
        Check.same("10 three items", x.run(), R);
        x.pushIf();
        Check.same("10 one item again", x.run(), OK);
        Check.left("10 one item again", x, INT, 2, 0, 0);
    }

    private static void refusedRunChangesNothing() {
        SafeClosures x = object("(app (lam v0 v0) (lam v1 (* v1 v1)))");
        x.run();
        x.pushNum(1);
        Check.same("10 refused", x.run(), R);
        Check.left("10 refused keeps the result", x, CLOSURE, 5, 1, 2);
        Check.same("10 refused keeps the closure", x.callResult(9), OK);
        Check.left("10 refused keeps the closure", x, INT, 81, 1, 0);
        Check.same("10 refused", x.run(), R);
        Check.left("10 refused keeps the int", x, INT, 81, 1, 0);
    }

    private static void unboundRoot() {
        Check.fails("v0", SafeClosures.ERR_UNBOUND, 0, 0);
        Check.fails("v7", SafeClosures.ERR_UNBOUND, 0, 0);
        Check.fails("(lam v0 v1)", SafeClosures.ERR_UNBOUND, 0, 0);
        Check.fails("(if 1 2 v3)", SafeClosures.ERR_UNBOUND, 0, 0);
        Check.fails("(let v0 v0 1)", SafeClosures.ERR_UNBOUND, 0, 0);
        Check.fails("(app 1 v0)", SafeClosures.ERR_UNBOUND, 0, 0);
        Check.fails("(letrec v0 (lam v1 v2) 5)", SafeClosures.ERR_UNBOUND, 0, 0);
        SafeClosures x = object("(app (lam v0 v0) (lam v1 v1))");
        x.run();
        x.pushVar(4);
        x.pushApp();
        Check.same("10 unbound after a run", x.run(), SafeClosures.ERR_UNBOUND);
        Check.left("10 unbound after a run", x, NONE, 0, 0, 0);
        Check.same("10 unbound leaves no closure", x.callResult(1), R);
        x.pushLam(4);
        Check.same("10 bound after all", x.run(), OK);
    }

    private static void arithmetic() {
        int[] numbers = {0, 1, -1, 2, 7, -13, 65536, 46341, 1000000007, Integer.MAX_VALUE, Integer.MIN_VALUE};
        for (int a : numbers) {
            for (int b : numbers) {
                Check.gives("(+ " + a + " " + b + ")", a + b, 0, 0);
                Check.gives("(- " + a + " " + b + ")", a - b, 0, 0);
                Check.gives("(* " + a + " " + b + ")", a * b, 0, 0);
                Check.gives("(< " + a + " " + b + ")", a < b ? 1 : 0, 0, 0);
                Check.gives("(= " + a + " " + b + ")", a == b ? 1 : 0, 0, 0);
            }
        }
        Check.gives("(- (- 10 4) (- 3 1))", 4, 0, 0);
        Check.gives("(if (< 3 2) 10 (if (= 2 2) 20 30))", 20, 0, 0);
    }

    private static void scopes() {
        Check.gives("(let v0 3 (+ v0 v0))", 6, 0, 0);
        Check.gives("(let v0 1 (let v0 (+ v0 1) (* v0 10)))", 20, 0, 0);
        Check.gives("(let v0 1 (+ (let v0 5 v0) v0))", 6, 0, 0);
        Check.gives("(let v0 1 (+ v0 (let v0 5 v0)))", 6, 0, 0);
        Check.gives("(let v0 2 (let v1 (lam v2 (* v0 v2)) (let v0 100 (app v1 v0))))", 200, 1, 1);
        Check.gives("(app (lam v0 (app (lam v0 (+ v0 1)) (* v0 2))) 5)", 11, 2, 1);
        Check.gives("(let v0 7 (app (lam v1 v0) 3))", 7, 1, 1);
        Check.gives("(let v7 7 (let v0 1 (if v0 v7 v0)))", 7, 0, 0);
        Check.gives("(let v3 (lam v1 v1) (let v3 5 v3))", 5, 0, 1);
        Check.gives("(let v3 5 (app (let v3 (lam v1 (+ v1 1)) v3) v3))", 6, 1, 1);
        Check.gives("(letrec v0 (lam v0 v0) (app v0 8))", 8, 1, 1);
        Check.gives("(let v0 1 (+ (letrec v0 (lam v1 v1) (app v0 20)) v0))", 21, 1, 1);
        Check.gives("(app (app (app (lam v0 (lam v1 (lam v2 (- (- v0 v1) v2)))) 10) 3) 2)", 5, 3, 1);
    }

    private static void recursion() {
        Check.gives("(letrec v0 (lam v1 (if v1 (* v1 (app v0 (- v1 1))) 1)) (app v0 5))", 120, 6, 1);
        Check.gives("(letrec v0 (lam v1 (if (< v1 2) v1 (+ (app v0 (- v1 1)) (app v0 (- v1 2))))) (app v0 7))",
            13, 41, 1);
        String even = "(lam v2 (if v2 (app v1 (- v2 1)) 1))";
        String odd = "(lam v2 (if v2 (app v0 (- v2 1)) 0))";
        Check.gives("(letrec2 v0 " + even + " v1 " + odd + " (app v0 11))", 0, 12, 2);
        Check.gives("(letrec2 v0 " + even + " v1 " + odd + " (app v0 10))", 1, 11, 2);
        Check.gives("(letrec2 v0 " + even + " v1 " + odd + " (app v1 10))", 0, 11, 2);
        Check.gives("(letrec2 v5 (lam v0 (+ v0 1)) v6 (lam v0 (* v0 2)) (app v5 (app v6 4)))", 9, 2, 2);
        // Closures are made for the names themselves, whatever the names meant outside.
        Check.gives("(let v0 9 (letrec v0 (lam v1 (if v1 (app v0 0) 4)) (app v0 1)))", 4, 2, 1);
    }

    private static void typeErrors() {
        int error = SafeClosures.ERR_TYPE;
        for (String op : new String[] {"+", "-", "*", "<", "="}) {
            Check.fails("(" + op + " (lam v0 v0) 1)", error, 0, 1);
            Check.fails("(" + op + " 1 (lam v0 v0))", error, 0, 1);
            Check.fails("(" + op + " (lam v0 v0) (lam v0 v0))", error, 0, 2);
        }
        Check.fails("(let v0 (lam v1 v1) (= v0 v0))", error, 0, 1);
        Check.fails("(if (lam v0 v0) 1 2)", error, 0, 1);
        Check.fails("(app (lam v0 (if v0 1 2)) (lam v1 v1))", error, 1, 2);
    }

    private static void notFunctions() {
        int error = SafeClosures.ERR_NOT_FUNCTION;
        Check.fails("(app 1 2)", error, 0, 0);
        Check.fails("(app 0 (lam v0 v0))", error, 0, 1);
        Check.fails("(app (app (lam v0 v0) 3) 4)", error, 1, 1);
        Check.fails("(let v0 5 (app v0 v0))", error, 0, 0);
    }

    /** The first error in the order of evaluation is the one that is answered. */
    private static void orderOfEvaluation() {
        Check.fails("(+ (app 1 2) (+ (lam v0 v0) 1))", SafeClosures.ERR_NOT_FUNCTION, 0, 0);
        Check.fails("(+ (+ (lam v0 v0) 1) (app 1 2))", SafeClosures.ERR_TYPE, 0, 1);
        Check.fails("(app 1 (+ (lam v0 v0) 1))", SafeClosures.ERR_TYPE, 0, 1);
        Check.fails("(+ (lam v0 v0) (app 1 2))", SafeClosures.ERR_NOT_FUNCTION, 0, 1);
        Check.fails("(app 1 " + LOOP + ")", SafeClosures.ERR_FUEL, 100, 1);
        Check.fails("(+ (lam v0 v0) " + LOOP + ")", SafeClosures.ERR_FUEL, 100, 2);
        Check.gives("(if 0 (app 1 2) 3)", 3, 0, 0);
        Check.gives("(if 1 3 (app 1 2))", 3, 0, 0);
        Check.gives("(let v0 (lam v1 (app 1 2)) 6)", 6, 0, 1);
        Check.fails("(let v0 (app 1 2) 6)", SafeClosures.ERR_NOT_FUNCTION, 0, 0);
    }

    private static void runsRepeat() {
        SafeClosures x = object("(letrec v0 (lam v1 (if v1 (* v1 (app v0 (- v1 1))) 1)) (app v0 5))");
        for (int i = 0; i < 50; i++) {
            Check.same("10 repeated", x.run(), OK);
            Check.left("10 repeated", x, INT, 120, 6, 1);
        }
        x.pushNum(1);
        x.pushPrim(SafeClosures.OP_ADD);
        Check.same("10 grown", x.run(), OK);
        Check.left("10 grown", x, INT, 121, 6, 1);
    }

    private static void errorsLeaveNoResult() {
        SafeClosures x = object("(lam v0 (if v0 (app v0 1) (lam v1 v1)))");
        x.run();
        Check.same("11 first", x.callResult(0), OK);
        Check.same("13 a closure", x.resultKind(), CLOSURE);
        x.run();
        Check.same("11 an error", x.callResult(1), SafeClosures.ERR_NOT_FUNCTION);
        Check.left("11 an error", x, NONE, 0, 1, 0);
        Check.same("11 no closure is left", x.callResult(0), R);
        Check.same("10 run again", x.run(), OK);
        Check.left("10 run again", x, CLOSURE, 7, 0, 1);
    }

    private static void callResultNeedsAClosure() {
        SafeClosures x = object("(app (lam v0 v0) 5)");
        Check.same("11 before a run", x.callResult(1), R);
        Check.left("11 before a run", x, NONE, 0, 0, 0);
        x.run();
        Check.same("11 an int", x.callResult(1), R);
        Check.left("11 an int", x, INT, 5, 1, 1);
    }

    private static void callResultAppliesTheClosure() {
        SafeClosures x = object("(app (lam v0 (lam v1 (lam v2 (- v0 (* v1 v2))))) 100)");
        x.run();
        Check.left("11 curried, run", x, CLOSURE, 6, 1, 1);
        Check.same("11 curried, first", x.callResult(4), OK);
        Check.left("11 curried, first", x, CLOSURE, 5, 1, 1);
        Check.same("11 curried, second", x.callResult(6), OK);
        Check.left("11 curried, second", x, INT, 76, 1, 0);
        Check.same("11 curried, third", x.callResult(6), R);
        int[] arguments = {0, 1, -1, 8, Integer.MAX_VALUE, Integer.MIN_VALUE};
        for (int k : arguments) {
            SafeClosures same = object("(lam v3 v3)");
            same.run();
            Check.same("11 callResult(" + k + ")", same.callResult(k), OK);
            Check.left("11 callResult(" + k + ")", same, INT, k, 1, 0);
        }
        SafeClosures self = object("(letrec v0 (lam v1 (if v1 v0 5)) v0)");
        self.run();
        Check.same("11 itself", self.callResult(1), OK);
        Check.left("11 itself", self, CLOSURE, 4, 1, 0);
        Check.same("11 itself, again", self.callResult(0), OK);
        Check.left("11 itself, again", self, INT, 5, 1, 0);
    }

    private static void callResultErrors() {
        SafeClosures fuel = Source.object(7, 32, 32, "(letrec v0 (lam v1 (if v1 (app v0 v1) 3)) v0)");
        fuel.run();
        Check.same("11 fuel", fuel.callResult(1), SafeClosures.ERR_FUEL);
        Check.left("11 fuel", fuel, NONE, 0, 7, 0);
        fuel.run();
        Check.same("11 fuel is fresh", fuel.callResult(0), OK);
        Check.left("11 fuel is fresh", fuel, INT, 3, 1, 0);
        SafeClosures least = Source.object(1, 2, 4, "(lam v0 (lam v1 (+ v0 v1)))");
        least.run();
        Check.same("11 least fuel", least.callResult(2), OK);
        Check.same("11 least fuel, again", least.callResult(3), OK);
        Check.left("11 least fuel, again", least, INT, 5, 1, 0);
        SafeClosures deep = Source.object(100, 32, 4, "(letrec v0 (lam v1 (+ 1 (app v0 v1))) v0)");
        deep.run();
        Check.same("11 depth", deep.callResult(1), SafeClosures.ERR_DEPTH);
        Check.left("11 depth", deep, NONE, 0, 4, 0);
        SafeClosures type = object("(lam v0 (+ v0 (lam v1 v1)))");
        type.run();
        Check.same("11 type", type.callResult(1), SafeClosures.ERR_TYPE);
        Check.left("11 type", type, NONE, 0, 1, 1);
        SafeClosures live = Source.object(100, 2, 32,
            "(lam v0 (let v1 (lam v2 v2) (let v2 (lam v3 v1) (lam v4 v2))))");
        live.run();
        Check.same("11 memory", live.callResult(1), SafeClosures.ERR_MEMORY);
        Check.left("11 memory", live, NONE, 0, 1, 3);
        Check.same("11 memory, then", live.callResult(1), R);
    }

    private static void callResultLeavesTheProgram() {
        SafeClosures x = object("(lam v0 (+ v0 1))");
        x.run();
        x.pushNum(3);
        Check.same("11 with two items", x.callResult(6), OK);
        Check.left("11 with two items", x, INT, 7, 1, 0);
        Check.same("11 leaves the nodes", x.freeVars(2), 1);
        Check.same("11 leaves the stack", x.pushApp(), 5);
        Check.same("11 then run()", x.run(), OK);
        Check.left("11 then run()", x, INT, 4, 1, 1);
    }

    /** The held closure is replaced at every call, and the closures before it must make room. */
    private static void manyCalls() {
        SafeClosures x = Source.object(2, 2, 4, "(app (letrec v0 (lam v1 (lam v2 (app v0 (+ v1 v2)))) v0) 0)");
        Check.same("11 adder: run()", x.run(), OK);
        Check.left("11 adder", x, CLOSURE, 5, 1, 2);
        for (int i = 0; i < 5000; i++) {
            Check.same("11 adder, call " + i, x.callResult(i), OK);
            Check.left("11 adder, call " + i, x, CLOSURE, 5, 2, 2);
        }
        SafeClosures chain = object("(letrec v0 (lam v1 (lam v2 (if v2 (app v0 (lam v3 v1)) v1))) (app v0 7))");
        Check.same("11 chain: run()", chain.run(), OK);
        Check.left("11 chain", chain, CLOSURE, 7, 1, 2);
        for (int i = 1; i <= 30; i++) {
            Check.same("11 chain, call " + i, chain.callResult(1), OK);
            Check.left("11 chain, call " + i, chain, CLOSURE, 7, 2, i + 2);
        }
        Check.same("11 chain, too long", chain.callResult(1), SafeClosures.ERR_MEMORY);
        Check.left("11 chain, too long", chain, NONE, 0, 2, 33);
    }

    private static String countdown(int n) {
        return "(letrec v0 (lam v1 (if v1 (app v0 (- v1 1)) 42)) (app v0 " + n + "))";
    }

    private static void fuel() {
        for (int fuel = 1; fuel <= 100; fuel++) {
            SafeClosures most = Source.object(fuel, 2, 4, countdown(fuel - 1));
            Check.same("14 all fuel spent", most.run(), OK);
            Check.left("14 all fuel spent", most, INT, 42, fuel, 1);
            SafeClosures over = Source.object(fuel, 2, 4, countdown(fuel));
            Check.same("14 one call too many", over.run(), SafeClosures.ERR_FUEL);
            Check.left("14 one call too many", over, NONE, 0, fuel, 1);
            Check.same("14 and again", over.run(), SafeClosures.ERR_FUEL);
            Check.left("14 and again", over, NONE, 0, fuel, 1);
        }
    }

    /** Some 4,700 steps: 31 nodes, nearly all of them evaluated again at every one of the 100 calls. */
    private static void longestRun() {
        String zero = "(- v1 v1)";
        String less = "(- (- (- (- v1 (+ 1 0)) " + zero + ") " + zero + ") (- " + zero + " " + zero + "))";
        Check.gives("(letrec v0 (lam v1 (if v1 (app v0 " + less + ") 42)) (app v0 99))", 42, 100, 1);
    }

    private static void depthIs(String text, int most) {
        SafeClosures fits = Source.object(100, 32, most, text);
        Check.same("10 at depth " + most + ": " + text, fits.run(), OK);
        SafeClosures less = Source.object(100, 32, most - 1, text);
        Check.same("10 at depth " + (most - 1) + ": " + text, less.run(), SafeClosures.ERR_DEPTH);
        Check.same("13 after ERR_DEPTH: " + text, less.resultKind(), NONE);
        SafeClosures more = Source.object(100, 32, 32, text);
        Check.same("10 at depth 32: " + text, more.run(), OK);
        Check.same("13 the same kind: " + text, fits.resultKind(), more.resultKind());
        Check.same("13 the same value: " + text, fits.resultValue(), more.resultValue());
    }

    private static void depth() {
        depthIs("(+ 1 (+ 1 (+ 1 (+ 1 (+ 1 1)))))", 5);
        depthIs("(+ (+ (+ (+ (+ 1 1) 1) 1) 1) 1)", 5);
        depthIs("(if (if (if (if (if 1 1 1) 1 1) 1 1) 1 1) 1 1)", 5);
        depthIs("(let v0 (let v0 (let v0 (let v0 (let v0 1 v0) v0) v0) v0) v0)", 5);
        depthIs("(app (lam v0 v0) (app (lam v0 v0) (app (lam v0 v0) (app (lam v0 v0) (app (lam v0 v0) 1)))))", 5);
        depthIs("(app (app (app (app (app (lam v0 (lam v0 (lam v0 (lam v0 (lam v0 v0))))) 1) 1) 1) 1) 1)", 5);
        depthIs("(+ 1 (+ 1 (app (lam v0 (if v0 (+ 1 (let v1 (* 2 v0) v1)) 0)) 4)))", 5);
        String letrecs = "(letrec v0 (lam v1 v1) (letrec v0 (lam v1 v1) (letrec v0 (lam v1 v1) 1)))";
        Check.gives(letrecs, 1, 0, 0);
        SafeClosures shallow = Source.object(1, 2, 4, "(let v0 1 (let v0 2 (let v0 3 (let v0 4 (let v0 5 v0)))))");
        Check.same("10 LET bodies need no frame", shallow.run(), OK);
        SafeClosures branches = Source.object(1, 2, 4, "(if 1 (if 1 (if 1 (if 1 (if 1 6 0) 0) 0) 0) 0)");
        Check.same("10 IF branches need no frame", branches.run(), OK);
        SafeClosures closure = Source.object(100, 32, 4, "(lam v0 (+ 1 (+ 1 (+ 1 (+ 1 v0)))))");
        closure.run();
        Check.same("11 four frames", closure.callResult(1), OK);
        SafeClosures five = Source.object(100, 32, 4, "(lam v0 (+ 1 (+ 1 (+ 1 (+ 1 (+ 1 v0))))))");
        five.run();
        Check.same("11 five frames", five.callResult(1), SafeClosures.ERR_DEPTH);
        Check.left("11 five frames", five, NONE, 0, 1, 0);
    }

    private static void tailCalls() {
        SafeClosures loop = Source.object(100, 2, 4, countdown(99));
        Check.same("10 a tail call leaves no frame", loop.run(), OK);
        Check.left("10 a tail call leaves no frame", loop, INT, 42, 100, 1);
        String step = "(lam v1 (let v2 (- v1 1) (if v1 (app v0 v2) 8)))";
        SafeClosures let = Source.object(100, 2, 4, "(letrec v0 " + step + " (app v0 99))");
        Check.same("10 a tail call in a LET body", let.run(), OK);
        Check.left("10 a tail call in a LET body", let, INT, 8, 100, 1);
    }

    private static void peakIs(String text, int peak) {
        SafeClosures x = object(text);
        Check.same("15 " + text, x.run(), OK);
        Check.same("15 peak of " + text, x.peakLive(), peak);
        Check.same("15 the same run again", x.run(), OK);
        Check.same("15 peak again of " + text, x.peakLive(), peak);
    }

    private static void liveClosures() {
        peakIs("5", 0);
        peakIs("(lam v0 v0)", 1);
        // A LETREC counts what its body mentions, and what that captures.
        peakIs("(letrec v0 (lam v1 v1) 5)", 0);
        peakIs("(letrec2 v0 (lam v1 v1) v2 (lam v1 v1) v0)", 1);
        peakIs("(letrec2 v0 (lam v1 v1) v2 (lam v1 v0) v2)", 2);
        peakIs("(letrec2 v0 (lam v1 v2) v2 (lam v1 v0) v0)", 2);
        peakIs("(letrec2 v0 (lam v1 v1) v2 (lam v1 v2) (+ (app v0 1) 1))", 1);
        // A closure keeps only what is free in its own lambda.
        peakIs("(let v0 (lam v1 v1) (lam v2 v2))", 1);
        peakIs("(let v0 (lam v1 v1) (lam v2 v0))", 2);
        peakIs("(let v0 (lam v1 v1) (lam v0 v0))", 1);
        peakIs("(let v0 (lam v1 v1) (let v2 (lam v1 v0) (lam v1 v2)))", 3);
        peakIs("(let v0 (lam v1 v1) (lam v2 (+ (app v0 1) (app v0 2))))", 2);
        peakIs("(let v0 (lam v1 v1) (let v2 v0 (let v3 v0 (lam v4 (if v0 v2 v3)))))", 2);
        // ARG keeps what the argument mentions, CALL its function.
        peakIs("(app (lam v0 1) (lam v0 1))", 2);
        peakIs("(let v0 (lam v1 v1) (app (lam v2 2) v0))", 2);
        peakIs("(let v0 (lam v1 v1) (app (lam v2 2) 3))", 1);
        peakIs("(let v0 (lam v1 v1) (app v0 (lam v2 2)))", 2);
        peakIs("(let v0 (lam v1 v1) (+ (app v0 1) (app (lam v2 2) 3)))", 1);
        // LEFT keeps what the right side mentions, RIGHT the left value.
        peakIs("(let v0 (lam v1 v1) (+ (app (lam v2 2) 3) (app v0 1)))", 2);
        // TEST keeps what either branch mentions, BIND what the body mentions beside its own variable.
        peakIs("(let v0 (lam v1 v1) (if (app (lam v2 2) 3) v0 1))", 2);
        peakIs("(let v0 (lam v1 v1) (if (app (lam v2 2) 3) 1 v0))", 2);
        peakIs("(let v0 (lam v1 v1) (if (app (lam v2 2) 3) 1 2))", 1);
        peakIs("(let v0 (lam v1 v1) (let v3 (lam v2 2) v0))", 2);
        peakIs("(let v0 (lam v1 v1) (let v3 (lam v2 2) v3))", 1);
        peakIs("(let v0 (lam v1 v1) (let v0 (lam v2 2) v0))", 1);
        // A called body no longer keeps its own closure.
        peakIs("(app (lam v0 (lam v1 v1)) 3)", 1);
        peakIs("(app (lam v0 (app (lam v1 (lam v2 v2)) 3)) 3)", 1);
        // Closures of the same lambda are distinct.
        peakIs("(let v0 (lam v1 (lam v2 v2)) (let v3 (app v0 1) (let v4 (app v0 1) (lam v5 (app v3 v4)))))", 3);
        Check.fails("(= (let v0 (lam v1 v1) v0) (lam v1 v1))", SafeClosures.ERR_TYPE, 0, 2);
    }

    private static void liveLimit() {
        String three = "(let v0 (lam v3 3) (let v1 (lam v3 v0) (let v2 (lam v3 v1) 5)))";
        SafeClosures fits = Source.object(100, 3, 32, three);
        Check.same("15 as many as the limit", fits.run(), OK);
        Check.left("15 as many as the limit", fits, INT, 5, 0, 3);
        SafeClosures over = Source.object(100, 2, 32, three);
        Check.same("15 one over the limit", over.run(), SafeClosures.ERR_MEMORY);
        Check.left("15 one over the limit", over, NONE, 0, 0, 3);
        // Two closures of one LETREC can overshoot the limit by two.
        String pair = "(let v0 (lam v3 3) (let v1 (lam v3 v0) (letrec2 v4 (lam v3 v5) v5 (lam v3 v1) v4)))";
        SafeClosures two = Source.object(100, 2, 32, pair);
        Check.same("15 two over the limit", two.run(), SafeClosures.ERR_MEMORY);
        Check.left("15 two over the limit", two, NONE, 0, 0, 4);
        String most = "(app (app (letrec v0 (lam v1 (lam v2 (if v1 (app (app v0 (- v1 1)) (lam v3 v2)) "
            + "(letrec2 v4 (lam v3 v5) v5 (lam v3 v2) v4)))) v0) 30) 7)";
        SafeClosures full = object(most);
        Check.same("15 thirty in a chain and two", full.run(), OK);
        Check.same("15 thirty in a chain and two: kind", full.resultKind(), CLOSURE);
        Check.same("15 thirty in a chain and two: peak", full.peakLive(), 32);
        String atEnd = "(let v2 (lam v3 v2) (let v2 (lam v3 v2) (letrec2 v4 (lam v3 v5) v5 (lam v3 v2) v4)))";
        String all = "(app (app (letrec v0 (lam v1 (lam v2 (if v1 (app (app v0 (- v1 1)) (lam v3 v2)) "
            + atEnd + "))) v0) 30) 7)";
        SafeClosures beyond = object(all);
        for (int i = 0; i < 3; i++) {
            Check.same("15 the most there can be", beyond.run(), SafeClosures.ERR_MEMORY);
            Check.left("15 the most there can be", beyond, NONE, 0, 62, 34);
            Check.same("15 full again", full.run(), OK);
            Check.left("15 full again", full, CLOSURE, full.resultValue(), 62, 32);
            over.run();
            Check.left("15 the same after errors", over, NONE, 0, 0, 3);
        }
        // A peak is the greatest count, not the last.
        Check.gives("(+ (app (app (lam v0 (lam v1 1)) (lam v2 2)) (lam v3 3)) (app (lam v0 1) 1))", 2, 3, 2);
    }

    private static void answersChangeNothing() {
        SafeClosures x = object("(app (lam v0 (lam v1 v0)) (lam v2 v2))");
        x.run();
        for (int i = 0; i < 3; i++) {
            Check.left("13 asked again", x, CLOSURE, 1, 1, 2);
            x.freeVars(i);
            x.freeVars(-1);
        }
        Check.same("13 the closure is still held", x.callResult(1), OK);
        Check.left("13 the captured closure", x, CLOSURE, 4, 1, 0);
        Check.same("13 it still runs", x.callResult(6), OK);
        Check.left("13 it still runs", x, INT, 6, 1, 0);
    }
}
