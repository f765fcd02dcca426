import java.util.function.Supplier;

/** Promises 10, 11 and 13 to 15: when run and callResult are refused, and what they and their errors leave. */
public final class RunTest {
    private static final int R = SafeClosures.REFUSED;
    private static final int OK = SafeClosures.OK;
    private static final int NONE = SafeClosures.KIND_NONE;
    private static final int INT = SafeClosures.KIND_INT;
    private static final int CLOSURE = SafeClosures.KIND_CLOSURE;
    private static final int LEAST = Integer.MIN_VALUE;
    private static final int GREATEST = Integer.MAX_VALUE;
    private static final String LOOP = "(letrec v0 (lam v1 (app v0 v1)) (app v0 1))";
    private static final String DEEP = "(letrec v0 (lam v1 (+ 1 (app v0 v1))) (app v0 1))";
    private static final String WIDE = "(letrec v0 (lam v1 (app v0 (lam v2 v1))) (app v0 1))";
    private static final String[] ERRORS = {"v7", State.ERROR, "(app (app (lam v0 v0) 1) 2)", LOOP, DEEP, WIDE};
    private static final int[] STATUSES = {SafeClosures.ERR_UNBOUND, SafeClosures.ERR_TYPE,
        SafeClosures.ERR_NOT_FUNCTION, SafeClosures.ERR_FUEL, SafeClosures.ERR_DEPTH, SafeClosures.ERR_MEMORY};
    private static final int[] ERROR_CALLS = {0, 1, 1, 100, 32, 32};
    private static final int[] ERROR_PEAKS = {0, 2, 1, 1, 1, 33};

    public static void main(String[] args) {
        runNeedsExactlyOneItem();
        runStartsFromNothing();
        runOfAnUnboundRoot();
        onlyTheRootMustBeBound();
        runLeavesTheProgram();
        callResultNeedsAClosure();
        callResultStartsFromNothing();
        callResultHasFuelOfItsOwn();
        callResultHasAnEmptyFrameStack();
        callResultTakesAnyInt();
        callResultLeavesTheProgram();
        heldKinds();
        heldValues();
        callsOfTheLastRun();
        callsNeverExceedTheFuel();
        peakCountsTheErrorToo();
        peakIsZeroWithoutACheck();
        peakIsTheGreatest();
        questionsChangeNothing();
        Check.end();
    }

    private static void runRefused(String what, Supplier<SafeClosures> state) {
        Unchanged.by("run(), " + what, state, o -> o.run(), R);
    }

    private static void runNeedsExactlyOneItem() {
        Check.sentence("Promise 10: Refused (answers REFUSED, changes nothing) unless the build stack holds exactly "
            + "1 item");
        runRefused("new", () -> State.items());
        runRefused("cleared", () -> State.cleared());
        for (String program : new String[] {State.CLOSURE, State.INT, State.ERROR, "v0"}) {
            runRefused("two items", () -> State.items(program, "2"));
            runRefused("two items, the first one run", () -> State.ran(program, "2"));
            runRefused("two items, after clear()", () -> State.cleared(program, "2"));
            runRefused("three items, the first one run", () -> State.ran(program, "2", State.LAMBDA));
            runRefused("two items, all nodes made", () -> State.grown(State.ran(program, "2"), 32));
        }
        SafeClosures x = new SafeClosures(100, 32, 32);
        for (int items = 1; items <= 32; items++) {
            x.pushNum(items);
            Check.same("run() with " + items + " items", x.run(), items == 1 ? OK : R);
            Check.left("run() with " + items + " items", x, INT, 1, 0, 0);
        }
        SafeClosures again = State.ran("1", "2", "3");
        Check.same("three items", again.run(), R);
        Check.same("two of them taken", again.pushPrim(SafeClosures.OP_ADD), 3);
        Check.same("two items", again.run(), R);
        Check.same("two of them taken", again.pushPrim(SafeClosures.OP_ADD), 4);
        Check.same("one item", again.run(), OK);
        Check.same("its value", again.resultValue(), 6);
    }

    /** Puts the root into a lambda that the body does not call, and runs the body. */
    private static void bodyRuns(SafeClosures x, String body, int status, int kind, int value) {
        x.pushLam(7);
        Source.push(x, body);
        x.pushLetrec(6, SafeClosures.NO_SECOND);
        Check.same(body, x.run(), status);
        Check.left(body, x, kind, value, 0, 0);
    }

    private static void runStartsFromNothing() {
        Check.sentence("Promise 10: Otherwise: the held result becomes NONE, and callsUsed and peakLive become 0");
        for (String before : new String[] {State.CLOSURE, State.INT, State.ERROR, LOOP, DEEP, WIDE}) {
            bodyRuns(State.ran(before), "5", OK, INT, 5);
            bodyRuns(State.ran(before), "(app 1 2)", SafeClosures.ERR_NOT_FUNCTION, NONE, 0);
            bodyRuns(State.ran(before), "(letrec v1 (lam v0 v0) (if 0 2 3))", OK, INT, 3);
        }
        SafeClosures called = State.ran(State.CLOSURE);
        called.callResult(4);
        bodyRuns(called, "(if 0 1 2)", OK, INT, 2);
    }

    private static void isUnbound(SafeClosures x, String what) {
        Check.same(what, x.run(), SafeClosures.ERR_UNBOUND);
        Check.left(what, x, NONE, 0, 0, 0);
        Check.same(what + ": callResult(1)", x.callResult(1), R);
        Check.left(what + ", asked again", x, NONE, 0, 0, 0);
    }

    private static void runOfAnUnboundRoot() {
        Check.sentence("Promise 10: If FV(root) is not empty, the answer is ERR_UNBOUND (held result NONE, "
            + "callsUsed 0, peakLive 0)");
        for (int x = 0; x < SafeClosures.NUM_VARS; x++) {
            String v = "v" + x;
            String other = "v" + (x + 1) % 8;
            String[] roots = {v, "(lam " + other + " " + v + ")", "(if 1 2 " + v + ")", "(if 0 " + v + " 2)",
                "(app 1 " + v + ")", "(app (lam " + other + " 1) " + v + ")", "(let " + v + " " + v + " 1)",
                "(+ (lam " + other + " 1) " + v + ")", "(letrec " + other + " (lam " + other + " " + v + ") 5)"};
            for (String root : roots) {
                isUnbound(State.items(root), root);
                isUnbound(State.cleared(root), root + " after clear()");
            }
        }
        for (String before : new String[] {State.CLOSURE, State.INT, State.ERROR}) {
            SafeClosures x = State.ran(before, "v3");
            x.pushApp();
            isUnbound(x, "unbound after " + before);
            isUnbound(x, "unbound after " + before + ", again");
            x.pushLam(3);
            Check.same("bound after all: run()", x.run(), OK);
            Check.same("bound after all: resultKind()", x.resultKind(), CLOSURE);
        }
    }

    private static void onlyTheRootMustBeBound() {
        Check.sentence("Promise 10: FV(root), not that of the nodes below it");
        SafeClosures x = State.items("(let v0 1 (lam v1 (letrec v2 (lam v3 (+ v0 v3)) (app v2 v1))))");
        Check.same("bound at the root: run()", x.run(), OK);
        Check.same("bound at the root: callResult(4)", x.callResult(4), OK);
        Check.left("bound at the root", x, INT, 5, 2, 1);
    }

    private static void runLeavesTheProgram() {
        Check.sentence("Promise 10: The nodes and the build stack are unchanged, so run may be repeated");
        for (int i = 0; i < ERRORS.length; i++) {
            SafeClosures x = State.items(ERRORS[i]);
            int nodes = State.nodeCount(x);
            int root = x.freeVars(nodes - 1);
            for (int again = 0; again < 4; again++) {
                Check.same(ERRORS[i], x.run(), STATUSES[i]);
                Check.left(ERRORS[i], x, NONE, 0, ERROR_CALLS[i], ERROR_PEAKS[i]);
                Check.same(ERRORS[i] + ": nodes", State.nodeCount(x), nodes);
                Check.same(ERRORS[i] + ": freeVars of the root", x.freeVars(nodes - 1), root);
            }
            Check.same(ERRORS[i] + ": one item", x.pushLam(7), nodes);
            Check.same(ERRORS[i] + " in a lambda: run()", x.run(), OK);
            Check.left(ERRORS[i] + " in a lambda", x, CLOSURE, nodes, 0, 1);
        }
        for (String program : new String[] {State.CLOSURE, State.INT}) {
            SafeClosures x = State.ran(program);
            int value = x.resultValue();
            for (int again = 0; again < 4; again++) {
                Check.same(program, x.run(), OK);
                Check.same(program + ": resultValue()", x.resultValue(), value);
                Check.same(program + ": peakLive()", x.peakLive(), 2);
            }
            Check.same(program + ": items", State.countItems(x), 1);
        }
    }

    private static void callRefused(String what, Supplier<SafeClosures> state) {
        for (int k : new int[] {0, 1, -1, LEAST, GREATEST}) {
            Unchanged.by("callResult(" + k + "), " + what, state, o -> o.callResult(k), R);
        }
    }

    private static SafeClosures called(String text, int... arguments) {
        SafeClosures x = State.ran(text);
        for (int k : arguments) {
            x.callResult(k);
        }
        return x;
    }

    private static void callResultNeedsAClosure() {
        Check.sentence("Promise 11: Refused (answers REFUSED, changes nothing) unless the held result is a closure");
        callRefused("new", () -> State.items());
        callRefused("nothing run", () -> State.items(State.LAMBDA));
        callRefused("cleared", () -> State.cleared());
        callRefused("a closure held before clear()", () -> State.cleared(State.LAMBDA));
        callRefused("an int is held", () -> State.ran(State.INT));
        callRefused("an int is held, two items", () -> State.ran("0", State.LAMBDA));
        callRefused("the int 2 is held", () -> State.ran("2"));
        for (String error : ERRORS) {
            callRefused("after " + error, () -> State.ran(error));
        }
        callRefused("after a callResult that gave an int", () -> called(State.LAMBDA, 7, 5));
        callRefused("after a callResult that failed", () -> called("(lam v0 (app v0 v0))", 7));
        callRefused("all nodes made", () -> State.grown(State.ran(State.INT), 32));
    }

    private static void callResultStartsFromNothing() {
        Check.sentence("Promise 11: the held result becomes NONE; callsUsed and peakLive become 0");
        SafeClosures error = State.ran("(app (lam v0 (lam v1 (app v1 v1))) (lam v2 v2))");
        Check.left("before", error, CLOSURE, 3, 1, 2);
        Check.same("callResult(3)", error.callResult(3), SafeClosures.ERR_NOT_FUNCTION);
        Check.left("an error", error, NONE, 0, 1, 0);
        Check.same("no closure is left", error.callResult(3), R);
        Check.left("no closure is left", error, NONE, 0, 1, 0);
        SafeClosures chain = State.ran("(app (lam v0 (lam v1 (lam v2 (app v0 (+ v1 v2))))) (lam v3 (* v3 2)))");
        Check.left("run", chain, CLOSURE, 6, 1, 2);
        Check.same("callResult(3)", chain.callResult(3), OK);
        Check.left("the first callResult", chain, CLOSURE, 5, 1, 2);
        Check.same("callResult(4)", chain.callResult(4), OK);
        Check.left("the second callResult", chain, INT, 14, 2, 0);
        Check.same("callResult(4), an int is held", chain.callResult(4), R);
        Check.left("after the refusal", chain, INT, 14, 2, 0);
    }

    private static void callResultHasFuelOfItsOwn() {
        Check.sentence("Promise 11: the CALL STEP of c with k is done (if callsUsed == fuel: ERR_FUEL)");
        SafeClosures least = Source.object(1, 2, 4, "(app (lam v0 v0) (lam v1 (lam v2 (app (lam v3 v3) v2))))");
        Check.same("all fuel is spent by run()", least.run(), OK);
        Check.left("all fuel is spent by run()", least, CLOSURE, 7, 1, 2);
        Check.same("callResult(3)", least.callResult(3), OK);
        Check.left("callResult(3)", least, CLOSURE, 6, 1, 1);
        Check.same("callResult(4)", least.callResult(4), SafeClosures.ERR_FUEL);
        Check.left("callResult(4)", least, NONE, 0, 1, 1);
        String countdown = "(letrec v0 (lam v1 (if v1 (app v0 (- v1 1)) v0)) v0)";
        for (int fuel : new int[] {1, 2, 50, 99, 100}) {
            SafeClosures x = Source.object(fuel, 2, 4, countdown);
            Check.same("run()", x.run(), OK);
            for (int i = 0; i < 3; i++) {
                Check.same("as many calls as fuel " + fuel, x.callResult(fuel - 1), OK);
                Check.left("as many calls as fuel " + fuel, x, CLOSURE, 8, fuel, 0);
            }
            Check.same("one call more than fuel " + fuel, x.callResult(fuel), SafeClosures.ERR_FUEL);
            Check.left("one call more than fuel " + fuel, x, NONE, 0, fuel, 0);
        }
    }

    private static void callResultHasAnEmptyFrameStack() {
        Check.sentence("Promise 11: the frame stack is empty");
        SafeClosures four = Source.object(100, 2, 4, "(lam v0 (+ 1 (+ 1 (+ 1 (+ 1 v0)))))");
        SafeClosures five = Source.object(100, 2, 4, "(lam v0 (+ 1 (+ 1 (+ 1 (+ 1 (+ 1 v0))))))");
        for (int i = 0; i < 3; i++) {
            four.run();
            Check.same("as many frames as depthLimit", four.callResult(i), OK);
            Check.left("as many frames as depthLimit", four, INT, i + 4, 1, 0);
            five.run();
            Check.same("one frame more than depthLimit", five.callResult(i), SafeClosures.ERR_DEPTH);
            Check.left("one frame more than depthLimit", five, NONE, 0, 1, 0);
        }
        SafeClosures both = Source.object(100, 2, 4, "(lam v0 (if v0 (+ 1 (+ 1 (+ 1 (+ 1 (app v0 1))))) "
            + "(+ 1 (+ 1 (+ 1 (+ 1 v0))))))");
        both.run();
        Check.same("an error with frames pending", both.callResult(1), SafeClosures.ERR_DEPTH);
        both.run();
        Check.same("frames pending before", both.callResult(0), OK);
        Check.left("frames pending before", both, INT, 4, 1, 0);
    }

    private static void callResultTakesAnyInt() {
        Check.sentence("Promise 11: callResult(k) applies the held closure to the int k");
        for (int k : new int[] {0, 1, -1, 2, 31, 32, 33, 34, 255, 256, LEAST, LEAST + 1, GREATEST}) {
            for (int x = 0; x < SafeClosures.NUM_VARS; x++) {
                SafeClosures same = State.ran("(lam v" + x + " v" + x + ")");
                Check.same("callResult(" + k + ")", same.callResult(k), OK);
                Check.left("callResult(" + k + ")", same, INT, k, 1, 0);
            }
            SafeClosures sum = State.ran("(lam v7 (+ v7 1))");
            Check.same("callResult(" + k + ")", sum.callResult(k), OK);
            Check.left("callResult(" + k + ") and 1", sum, INT, k + 1, 1, 0);
        }
    }

    private static void callResultLeavesTheProgram() {
        Check.sentence("Promise 11: The nodes and the build stack are unchanged");
        String body = "(lam v0 (if v0 (app v0 1) (lam v1 v0)))";
        for (int k = 0; k <= 1; k++) {
            for (String[] items : new String[][] {{body}, {body, "1"}, {body, "1", "2", "3"}}) {
                SafeClosures x = State.ran(items);
                int nodes = State.nodeCount(x);
                Check.same("callResult(" + k + ")", x.callResult(k), k == 0 ? OK : SafeClosures.ERR_NOT_FUNCTION);
                Check.same("nodes", State.nodeCount(x), nodes);
                Check.same("run()", x.run(), items.length == 1 ? OK : R);
                Check.same("items", State.countItems(x), items.length);
            }
        }
        SafeClosures full = State.grown(State.ran("(lam v0 (+ v0 1))", "5"), 32);
        Check.same("all nodes made: callResult(8)", full.callResult(8), OK);
        Check.left("all nodes made", full, INT, 9, 1, 0);
        Check.same("all nodes made: run()", full.run(), R);
        SafeClosures taken = State.ran("(lam v0 (+ v0 1))", "5");
        taken.pushApp();
        Check.same("its node taken by another: callResult(8)", taken.callResult(8), OK);
        Check.left("its node taken by another", taken, INT, 9, 1, 0);
        Check.same("its node taken by another: run()", taken.run(), OK);
        Check.left("its node taken by another, run", taken, INT, 6, 1, 1);
    }

    private static void heldKinds() {
        Check.sentence("Promise 13: for KIND_NONE, 0");
        Check.left("new", State.items(), NONE, 0, 0, 0);
        Check.left("nothing run", State.items(State.INT), NONE, 0, 0, 0);
        Check.left("cleared", State.cleared(State.CLOSURE), NONE, 0, 0, 0);
        for (int i = 0; i < ERRORS.length; i++) {
            Check.left(ERRORS[i], State.ran(ERRORS[i]), NONE, 0, ERROR_CALLS[i], ERROR_PEAKS[i]);
            SafeClosures x = State.ran(State.INT);
            x.pushLam(0);
            Source.push(x, ERRORS[i]);
            x.pushLetrec(0, SafeClosures.NO_SECOND);
            Check.same("an int held, then " + ERRORS[i], x.run(), STATUSES[i]);
            Check.left("an int held, then " + ERRORS[i], x, NONE, 0, ERROR_CALLS[i], ERROR_PEAKS[i]);
        }
    }

    private static void heldValues() {
        Check.sentence("Promise 13: for KIND_INT, the int");
        for (int k : new int[] {0, 1, -1, -2, 2, 31, 32, LEAST, LEAST + 1, GREATEST}) {
            Check.left("NUM " + k, State.ran("" + k), INT, k, 0, 0);
        }
        Check.sentence("Promise 13: for KIND_CLOSURE, the index of the closure's LAM node");
        Check.left("the least index", State.ran("(lam v0 v0)"), CLOSURE, 1, 0, 1);
        SafeClosures greatest = State.grown(State.items("5"), 32);
        Check.same("run()", greatest.run(), OK);
        Check.left("the greatest index", greatest, CLOSURE, 31, 0, 1);
        Check.left("not the root", State.ran("(if 0 (lam v0 v0) (let v0 (lam v1 1) v0))"), CLOSURE, 4, 0, 1);
        Check.left("l1", State.ran("(letrec2 v0 (lam v2 2) v1 (lam v2 3) v0)"), CLOSURE, 1, 0, 1);
        Check.left("l2", State.ran("(letrec2 v0 (lam v2 2) v1 (lam v2 3) v1)"), CLOSURE, 3, 0, 1);
        Check.left("the body", State.ran("(letrec2 v0 (lam v2 2) v1 (lam v2 3) (lam v2 4))"), CLOSURE, 5, 0, 1);
    }

    private static void callsOfTheLastRun() {
        Check.sentence("Promise 14: the number of CALL STEPs completed by the last run or callResult that was not "
            + "refused (0 after construction or clear)");
        Check.same("new", State.items().callsUsed(), 0);
        Check.same("cleared", State.cleared(State.INT).callsUsed(), 0);
        Check.same("no call", State.ran("(if 1 2 3)").callsUsed(), 0);
        Check.same("a call that is not completed", State.ran("(app 1 2)").callsUsed(), 0);
        Check.same("one of two is completed", State.ran("(app (app (lam v0 v0) 1) 2)").callsUsed(), 1);
        Check.same("two", State.ran(State.INT).callsUsed(), 2);
        SafeClosures x = State.ran(State.INT, "1");
        Check.same("refused: run()", x.run(), R);
        Check.same("refused: callResult(1)", x.callResult(1), R);
        Check.same("after refusals", x.callsUsed(), 2);
        SafeClosures unbound = State.ran(State.INT, "v0");
        unbound.pushApp();
        Check.same("unbound: run()", unbound.run(), SafeClosures.ERR_UNBOUND);
        Check.same("unbound", unbound.callsUsed(), 0);
    }

    private static void callsNeverExceedTheFuel() {
        Check.sentence("Promise 14: It never exceeds the fuel limit");
        String[] loops = {LOOP, "(app (lam v0 (app v0 v0)) (lam v0 (app v0 v0)))",
            "(letrec2 v0 (lam v2 (app v1 v2)) v1 (lam v2 (app v0 v2)) (app v1 7))"};
        for (int fuel = 1; fuel <= 101; fuel++) {
            for (String loop : loops) {
                SafeClosures x = Source.object(fuel, 2, 4, loop);
                Check.same(loop + ", fuel " + fuel, x.run(), SafeClosures.ERR_FUEL);
                Check.same(loop + ", fuel " + fuel + ": callsUsed()", x.callsUsed(), Math.min(fuel, 100));
                x.pushLam(5);
                Check.same("in a lambda: run()", x.run(), OK);
                Check.same("in a lambda: callResult(1)", x.callResult(1), SafeClosures.ERR_FUEL);
                Check.same("in a lambda: callsUsed()", x.callsUsed(), Math.min(fuel, 100));
            }
        }
    }

    private static void peakCountsTheErrorToo() {
        Check.sentence("Promise 15: including a count that caused ERR_MEMORY");
        for (int limit = 2; limit <= 33; limit++) {
            SafeClosures x = Source.object(100, limit, 32, WIDE);
            Check.same("liveLimit " + limit, x.run(), SafeClosures.ERR_MEMORY);
            Check.same("liveLimit " + limit + ": peakLive()", x.peakLive(), Math.min(limit, 32) + 1);
            x.pushLam(5);
            Check.same("in a lambda: run()", x.run(), OK);
            Check.same("in a lambda: peakLive()", x.peakLive(), 1);
            Check.same("in a lambda: callResult(1)", x.callResult(1), SafeClosures.ERR_MEMORY);
            Check.same("in a lambda: peakLive()", x.peakLive(), Math.min(limit, 32) + 1);
        }
        String pair = "(let v0 (lam v3 3) (let v1 (lam v3 v0) (letrec2 v4 (lam v3 v5) v5 (lam v3 v1) v4)))";
        SafeClosures two = Source.object(100, 2, 32, pair);
        Check.same("two over the limit at once", two.run(), SafeClosures.ERR_MEMORY);
        Check.left("two over the limit at once", two, NONE, 0, 0, 4);
    }

    private static void peakIsZeroWithoutACheck() {
        Check.sentence("Promise 15: It is 0 if no LIVE CHECK happened (and 0 after construction or clear)");
        Check.same("new", State.items().peakLive(), 0);
        Check.same("cleared", State.cleared(State.INT).peakLive(), 0);
        Check.same("no LAM and no LETREC", State.ran("(let v0 1 (if v0 (+ v0 2) 3))").peakLive(), 0);
        Check.same("a LAM in the branch not taken", State.ran("(if 1 2 (lam v0 v0))").peakLive(), 0);
        Check.same("an error before any LAM", State.ran("(app (app 1 2) (lam v0 v0))").peakLive(), 0);
        SafeClosures called = State.ran("(lam v0 (+ v0 1))");
        called.callResult(1);
        Check.same("a callResult without a LAM", called.peakLive(), 0);
        SafeClosures unbound = State.ran(State.INT, "v0");
        unbound.pushApp();
        unbound.run();
        Check.same("unbound", unbound.peakLive(), 0);
        SafeClosures refused = State.ran(State.INT, "1");
        Check.same("refused: run()", refused.run(), R);
        Check.same("refused: callResult(1)", refused.callResult(1), R);
        Check.same("after refusals", refused.peakLive(), 2);
    }

    private static void peakIsTheGreatest() {
        Check.sentence("Promise 15: the greatest live count seen at the LIVE CHECKs of the last run or callResult");
        String two = "(app (app (lam v0 (lam v1 1)) (lam v2 2)) (lam v3 3))";
        String one = "(app (lam v0 1) 1)";
        Check.left("the first check is the greatest", State.ran("(+ " + two + " " + one + ")"), INT, 2, 3, 2);
        Check.left("the last check is the greatest", State.ran("(+ " + one + " " + two + ")"), INT, 2, 3, 2);
        SafeClosures x = State.ran("(app (lam v0 (lam v1 (if v1 (lam v2 v1) 5))) (lam v3 3))");
        Check.same("run()", x.peakLive(), 2);
        x.callResult(1);
        Check.same("a callResult with a smaller peak", x.peakLive(), 1);
        x.run();
        Check.same("run() again", x.peakLive(), 2);
        x.callResult(0);
        Check.same("a callResult without a check", x.peakLive(), 0);
    }

    private static void questionsChangeNothing() {
        Check.sentence("Promises 13 to 15: Neither changes anything; It changes nothing");
        for (String program : new String[] {State.CLOSURE, State.INT, State.ERROR, "v7", LOOP, WIDE}) {
            SafeClosures x = State.ran(program);
            Unchanged.by("resultKind()", () -> State.ran(program, "1"), o -> o.resultKind(), x.resultKind());
            Unchanged.by("resultValue()", () -> State.ran(program), o -> o.resultValue(), x.resultValue());
            Unchanged.by("callsUsed()", () -> State.ran(program, "1"), o -> o.callsUsed(), x.callsUsed());
            Unchanged.by("peakLive()", () -> State.ran(program), o -> o.peakLive(), x.peakLive());
        }
    }
}
