import java.util.function.ToIntFunction;

/** Promises 1, 12 and 16 and "Nodes and free variables": the limits, the initial state, clear and freeVars. */
public final class ObjectTest {
    private static final int R = SafeClosures.REFUSED;
    private static final int OK = SafeClosures.OK;
    private static final int NONE = SafeClosures.KIND_NONE;
    private static final int ONE = SafeClosures.NO_SECOND;
    private static final int LEAST = Integer.MIN_VALUE;
    private static final int GREATEST = Integer.MAX_VALUE;
    private static final int[] BELOW = {LEAST, LEAST + 1, -1000000, -101, -100, -33, -32, -4, -2, -1, 0};
    private static final int[] ABOVE = {1000, 65536, 65537, 1 << 30, GREATEST - 1, GREATEST};

    public static void main(String[] args) {
        fuelIsClamped();
        liveLimitIsClamped();
        depthLimitIsClamped();
        eachLimitIsItsOwn();
        limitsNeverChange();
        initialState();
        clearReturnsToTheInitialState();
        clearKeepsTheLimits();
        numberingStartsAgain();
        nodesAreNeverRemoved();
        atMostMaxNodes();
        freeVarsOfEachKind();
        freeVarsRange();
        freeVarsChangesNothing();
        Check.end();
    }

    /** A loop without end spends all the fuel there is. */
    private static final String LOOP = "(letrec v0 (lam v1 (app v0 v1)) (app v0 1))";

    /** Each turn of this loop adds one closure to a chain, with two more live beside it. */
    private static String chain(int length) {
        return "(app (app (letrec v0 (lam v1 (lam v2 (if v1 (app (app v0 (- v1 1)) (lam v3 v2)) v2))) v0) "
            + length + ") 7)";
    }

    /** Every turn waits in one RIGHT frame, and the last one needs two frames more. */
    private static String sum(int turns) {
        return "(letrec v0 (lam v1 (if v1 (+ 1 (app v0 (- v1 1))) 0)) (app v0 " + turns + "))";
    }

    private static void hasFuel(SafeClosures x, int fuel) {
        Source.push(x, LOOP);
        Check.same("fuel " + fuel + ": run()", x.run(), SafeClosures.ERR_FUEL);
        Check.same("fuel " + fuel + ": callsUsed()", x.callsUsed(), fuel);
        x.clear();
    }

    private static void hasLiveLimit(SafeClosures x, int limit) {
        Source.push(x, chain(limit - 2));
        Check.same("liveLimit " + limit + " reached: run()", x.run(), OK);
        Check.same("liveLimit " + limit + " reached: peakLive()", x.peakLive(), limit);
        x.clear();
        Source.push(x, chain(limit - 1));
        Check.same("liveLimit " + limit + " exceeded: run()", x.run(), SafeClosures.ERR_MEMORY);
        Check.same("liveLimit " + limit + " exceeded: peakLive()", x.peakLive(), limit + 1);
        x.clear();
    }

    private static void hasDepthLimit(SafeClosures x, int limit) {
        Source.push(x, sum(limit - 2));
        Check.same("depthLimit " + limit + " reached: run()", x.run(), OK);
        Check.same("depthLimit " + limit + " reached: resultValue()", x.resultValue(), limit - 2);
        x.clear();
        Source.push(x, sum(limit - 1));
        Check.same("depthLimit " + limit + " exceeded: run()", x.run(), SafeClosures.ERR_DEPTH);
        x.clear();
    }

    private static void fuelIsClamped() {
        Check.sentence("Promise 1: clamps fuel into FUEL_MIN..FUEL_MAX");
        for (int given : BELOW) {
            hasFuel(new SafeClosures(given, 32, 32), 1);
        }
        for (int given = 1; given <= 100; given++) {
            hasFuel(new SafeClosures(given, 32, 32), given);
        }
        hasFuel(new SafeClosures(101, 32, 32), 100);
        hasFuel(new SafeClosures(102, 32, 32), 100);
        for (int given : ABOVE) {
            hasFuel(new SafeClosures(given, 32, 32), 100);
        }
    }

    private static void liveLimitIsClamped() {
        Check.sentence("Promise 1: liveLimit into LIVE_MIN..LIVE_MAX");
        hasLiveLimit(new SafeClosures(100, 1, 32), 2);
        for (int given : BELOW) {
            hasLiveLimit(new SafeClosures(100, given, 32), 2);
        }
        for (int given = 2; given <= 32; given++) {
            hasLiveLimit(new SafeClosures(100, given, 32), given);
        }
        hasLiveLimit(new SafeClosures(100, 33, 32), 32);
        hasLiveLimit(new SafeClosures(100, 34, 32), 32);
        for (int given : ABOVE) {
            hasLiveLimit(new SafeClosures(100, given, 32), 32);
        }
    }

    private static void depthLimitIsClamped() {
        Check.sentence("Promise 1: depthLimit into DEPTH_MIN..DEPTH_MAX");
        for (int given = 1; given <= 3; given++) {
            hasDepthLimit(new SafeClosures(100, 32, given), 4);
        }
        for (int given : BELOW) {
            hasDepthLimit(new SafeClosures(100, 32, given), 4);
        }
        for (int given = 4; given <= 32; given++) {
            hasDepthLimit(new SafeClosures(100, 32, given), given);
        }
        hasDepthLimit(new SafeClosures(100, 32, 33), 32);
        hasDepthLimit(new SafeClosures(100, 32, 34), 32);
        for (int given : ABOVE) {
            hasDepthLimit(new SafeClosures(100, 32, given), 32);
        }
    }

    private static void eachLimitIsItsOwn() {
        Check.sentence("Promise 1: Any int is accepted, including negative values and the extremes of int");
        int[] given = {LEAST, 0, GREATEST};
        for (int fuel : given) {
            for (int live : given) {
                for (int depth : given) {
                    hasFuel(new SafeClosures(fuel, live, depth), fuel > 0 ? 100 : 1);
                    // A chain or a sum longer than the fuel would end for want of calls.
                    if (fuel > 0) {
                        hasLiveLimit(new SafeClosures(fuel, live, 32), live > 0 ? 32 : 2);
                        hasDepthLimit(new SafeClosures(fuel, live, depth), depth > 0 ? 32 : 4);
                    }
                }
            }
        }
    }

    private static void limitsNeverChange() {
        Check.sentence("Promise 1: The limits never change afterwards");
        SafeClosures x = new SafeClosures(70, 17, 9);
        for (int i = 0; i < 3; i++) {
            hasFuel(x, 70);
            hasLiveLimit(x, 17);
            hasDepthLimit(x, 9);
        }
        SafeClosures same = Source.object(3, 2, 4, LOOP);
        for (int i = 0; i < 5; i++) {
            Check.same("the same program again: run()", same.run(), SafeClosures.ERR_FUEL);
            Check.left("the same program again", same, NONE, 0, 3, 1);
        }
    }

    /** All that can be told of an object without nodes, ending with one that has one node. */
    private static void isInitial(SafeClosures x) {
        Check.left("no node", x, NONE, 0, 0, 0);
        for (int node = -1; node <= 33; node++) {
            Check.same("no node: freeVars(" + node + ")", x.freeVars(node), R);
        }
        Check.same("no item: run()", x.run(), R);
        Check.same("nothing held: callResult(0)", x.callResult(0), R);
        Check.same("no item: pushLam(0)", x.pushLam(0), R);
        Check.same("no item: pushApp()", x.pushApp(), R);
        Check.same("no item: pushPrim(0)", x.pushPrim(0), R);
        Check.same("no item: pushIf()", x.pushIf(), R);
        Check.same("no item: pushLet(0)", x.pushLet(0), R);
        Check.same("no item: pushLetrec(0, -1)", x.pushLetrec(0, ONE), R);
        Check.same("no item: pushLetrec(0, 1)", x.pushLetrec(0, 1), R);
        Check.left("no node, after refusals", x, NONE, 0, 0, 0);
        Check.same("the first index", x.pushNum(6), 0);
        Check.same("one item: pushApp()", x.pushApp(), R);
        Check.left("one node", x, NONE, 0, 0, 0);
        Check.same("one item: run()", x.run(), OK);
        Check.left("one node run", x, SafeClosures.KIND_INT, 6, 0, 0);
    }

    private static void initialState() {
        Check.sentence("Promise 1: The initial state has no nodes, an empty build stack, held result NONE, "
            + "callsUsed 0 and peakLive 0");
        isInitial(new SafeClosures(100, 32, 32));
        isInitial(new SafeClosures(1, 2, 4));
        isInitial(new SafeClosures(LEAST, LEAST, LEAST));
        isInitial(new SafeClosures(GREATEST, GREATEST, GREATEST));
    }

    private static SafeClosures used(String text, int status) {
        SafeClosures x = Source.object(100, 2, 4, text);
        Check.same("before clear: " + text, x.run(), status);
        return x;
    }

    private static void isInitialAfterClear(SafeClosures x) {
        x.clear();
        isInitial(x);
        x.clear();
        x.clear();
        isInitial(x);
    }

    private static void clearReturnsToTheInitialState() {
        Check.sentence("Promise 12: clear() returns to the initial state: no nodes, an empty build stack, "
            + "held result NONE, callsUsed 0, peakLive 0");
        isInitialAfterClear(new SafeClosures(100, 32, 32));
        isInitialAfterClear(used("v7", SafeClosures.ERR_UNBOUND));
        isInitialAfterClear(used(State.CLOSURE, OK));
        isInitialAfterClear(used(State.INT, OK));
        isInitialAfterClear(used(State.ERROR, SafeClosures.ERR_TYPE));
        isInitialAfterClear(used("(app (app (lam v0 v0) 1) 2)", SafeClosures.ERR_NOT_FUNCTION));
        isInitialAfterClear(used(LOOP, SafeClosures.ERR_FUEL));
        isInitialAfterClear(used(sum(20), SafeClosures.ERR_DEPTH));
        isInitialAfterClear(used(chain(20), SafeClosures.ERR_MEMORY));
        isInitialAfterClear(State.ran(State.CLOSURE, "1", "2", State.LAMBDA));
        isInitialAfterClear(State.grown(State.ran(State.CLOSURE), 32));
        SafeClosures called = used("(lam v0 (lam v1 v0))", OK);
        called.callResult(4);
        isInitialAfterClear(called);
        SafeClosures items = new SafeClosures(100, 32, 32);
        for (int i = 0; i < 40; i++) {
            items.pushVar(7);
        }
        isInitialAfterClear(items);
    }

    private static void clearKeepsTheLimits() {
        Check.sentence("Promise 12: The limits are kept");
        int[][] limits = {{100, 2, 4}, {34, 32, 20}, {100, 32, 32}, {55, 9, 32}, {40, 3, 5}};
        for (int[] limit : limits) {
            SafeClosures x = new SafeClosures(limit[0], limit[1], limit[2]);
            for (int i = 0; i < 4; i++) {
                x.clear();
                hasFuel(x, limit[0]);
                x.clear();
                hasDepthLimit(x, limit[2]);
            }
        }
        SafeClosures x = new SafeClosures(100, 5, 8);
        for (int i = 0; i < 4; i++) {
            x.clear();
            hasLiveLimit(x, 5);
        }
    }

    private static void numberingStartsAgain() {
        Check.sentence("Promise 12: Node numbering starts again at 0");
        SafeClosures x = new SafeClosures(100, 32, 32);
        for (int made = 0; made <= 32; made++) {
            for (int i = 0; i < made; i++) {
                Check.same("pushVar, nodes " + i, x.pushVar(i % 8), i);
            }
            if (made == 32) {
                Check.same("pushVar, all nodes made", x.pushVar(0), R);
            }
            x.clear();
            Check.same("cleared: freeVars(0)", x.freeVars(0), R);
            Check.same("cleared: pushVar(6)", x.pushVar(6), 0);
            Check.same("cleared: freeVars(0)", x.freeVars(0), 64);
            Check.same("cleared: freeVars(1)", x.freeVars(1), R);
            Check.same("cleared: pushLam(6)", x.pushLam(6), 1);
            Check.same("cleared: run()", x.run(), OK);
            Check.left("cleared", x, SafeClosures.KIND_CLOSURE, 1, 0, 1);
            x.clear();
        }
    }

    private static void nodesAreNeverRemoved() {
        Check.sentence("Nodes: Nodes are never removed except by clear()");
        SafeClosures x = State.items("(lam v3 (if v3 (let v1 v3 v1) (letrec v2 (lam v4 v3) (app v2 v3))))");
        int[] due = {8, 8, 2, 8, 8, 8, 4, 8, 12, 8, 8, 0};
        for (int i = 0; i < 3; i++) {
            for (int node = 0; node < due.length; node++) {
                Check.same("freeVars(" + node + ")", x.freeVars(node), due[node]);
            }
            Check.same("freeVars beyond", x.freeVars(due.length), R);
            Check.same("run()", x.run(), OK);
            Check.same("callResult", x.callResult(i), OK);
            Check.same("the held int", x.resultValue(), i);
        }
        Check.same("the next index", x.pushNum(1), due.length);
    }

    private static void atMostMaxNodes() {
        Check.sentence("Nodes: a table of at most MAX_NODES nodes, numbered 0, 1, 2, ... in the order they were made");
        // Nodes that have left the build stack count as much as items do.
        SafeClosures one = State.items("5");
        for (int i = 1; i < 32; i++) {
            Check.same("pushLam, nodes " + i, one.pushLam(i % 8), i);
        }
        Check.same("pushLam, all nodes made", one.pushLam(0), R);
        Check.same("one item: run()", one.run(), OK);
        Check.left("the last node is the root", one, SafeClosures.KIND_CLOSURE, 31, 0, 1);
        for (int i = 30; i > 0; i--) {
            Check.same("callResult", one.callResult(i), OK);
            Check.left("the lambda inside", one, SafeClosures.KIND_CLOSURE, i, 1, 1);
        }
        Check.same("the last callResult", one.callResult(0), OK);
        Check.left("the first node", one, SafeClosures.KIND_INT, 5, 1, 0);
    }

    private static void freeIs(String text, int mask) {
        SafeClosures x = State.items("9");
        int root = Source.push(x, text);
        Check.same(text, x.freeVars(root), mask);
    }

    private static void freeVarsOfEachKind() {
        Check.sentence("Free variables: NUM: none. VAR x: {x}");
        freeIs("7", 0);
        freeIs("-1", 0);
        for (int x = 0; x < 8; x++) {
            freeIs("v" + x, 1 << x);
        }
        Check.sentence("Free variables: LAM x b: FV(b) - {x}");
        String all = "(+ (+ (+ v0 v1) (+ v2 v3)) (+ (+ v4 v5) (+ v6 v7)))";
        freeIs("(lam v0 5)", 0);
        for (int x = 0; x < 8; x++) {
            freeIs("(lam v" + x + " v" + x + ")", 0);
            freeIs("(lam v" + x + " " + all + ")", 255 - (1 << x));
            freeIs("(lam v" + x + " v" + (7 - x) + ")", 1 << (7 - x));
        }
        Check.sentence("Free variables: APP, PRIM, IF: the union of the children's sets");
        freeIs(all, 255);
        freeIs("(app v1 v6)", 66);
        freeIs("(app v7 1)", 128);
        freeIs("(app 1 v7)", 128);
        freeIs("(= v2 v2)", 4);
        freeIs("(if v0 v4 v7)", 145);
        freeIs("(if v5 1 2)", 32);
        freeIs("(if 1 v5 2)", 32);
        freeIs("(if 1 2 v5)", 32);
        freeIs("(if v5 v5 v5)", 32);
        Check.sentence("Free variables: LET: FV(e1) + (FV(e2) - {x})");
        freeIs("(let v3 v3 v3)", 8);
        freeIs("(let v3 v3 1)", 8);
        freeIs("(let v3 1 v3)", 0);
        freeIs("(let v3 v4 (app v3 v5))", 48);
        freeIs("(let v7 1 " + all + ")", 127);
        Check.sentence("Free variables: LETREC: (FV(l1) + FV(l2) + FV(b)) - {x1, x2}");
        freeIs("(letrec v3 (lam v1 v3) v3)", 0);
        freeIs("(letrec v3 (lam v1 v4) v5)", 48);
        freeIs("(letrec v3 (lam v1 v1) v1)", 2);
        freeIs("(letrec v7 (lam v0 " + all + ") 1)", 126);
        freeIs("(letrec v0 (lam v7 1) " + all + ")", 254);
        freeIs("(letrec2 v3 (lam v1 v4) v4 (lam v1 v3) (app v3 v4))", 0);
        freeIs("(letrec2 v3 (lam v1 v3) v4 (lam v1 v4) 1)", 0);
        freeIs("(letrec2 v3 (lam v1 v5) v4 (lam v1 v6) v7)", 224);
        freeIs("(letrec2 v0 (lam v1 v1) v7 (lam v0 1) " + all + ")", 126);
        freeIs("(letrec2 v0 (lam v1 1) v7 (lam v0 " + all + ") 2)", 126);
    }

    private static void freeVarsRange() {
        Check.sentence("Promise 16: Answers REFUSED if node < 0 or node >= the number of nodes");
        SafeClosures x = new SafeClosures(100, 32, 32);
        for (int count = 0; count <= 32; count++) {
            for (int node = 0; node < count; node++) {
                Check.same(count + " nodes: freeVars(" + node + ")", x.freeVars(node), 1 << node % 8);
            }
            for (int node = count; node <= count + 40; node++) {
                Check.same(count + " nodes: freeVars(" + node + ")", x.freeVars(node), R);
            }
            for (int node : new int[] {-1, -2, -31, -32, -33, LEAST, LEAST + 1, GREATEST, GREATEST - 1, 1 << 16}) {
                Check.same(count + " nodes: freeVars(" + node + ")", x.freeVars(node), R);
            }
            Check.same("the next node", x.pushVar(count % 8), count < 32 ? count : R);
        }
    }

    private static void freeVarsChangesNothing() {
        Check.sentence("Promise 16: It changes nothing");
        String[] programs = {State.CLOSURE, State.INT, State.ERROR, State.LAMBDA, "v7"};
        int[] nodes = {-1, LEAST, GREATEST, 0, 31, 32};
        for (String program : programs) {
            for (int node : nodes) {
                ToIntFunction<SafeClosures> call = o -> o.freeVars(node);
                int due = call.applyAsInt(State.ran(program));
                Unchanged.by("freeVars(" + node + ")", () -> State.ran(program), call, due);
                Unchanged.by("freeVars(" + node + ")", () -> State.items("5", program, program), call,
                    node == 0 ? 0 : R);
            }
        }
    }
}
