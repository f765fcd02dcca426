import java.util.List;
import java.util.function.ToIntFunction;

/**
 * Promises 2 to 9: every refusal condition alone, with the nearest call that it lets pass, and that a refused push
 * changes nothing and a push that is made changes the nodes and the build stack alone.
 */
public final class PushTest {
    private static final int R = SafeClosures.REFUSED;
    private static final int ONE = SafeClosures.NO_SECOND;
    private static final int LEAST = Integer.MIN_VALUE;
    private static final int GREATEST = Integer.MAX_VALUE;
    private static final int[] NO_VARIABLES = {-1, 8, -2, 9, 15, 31, 32, 33, 63, 64, 255, 256, -8, LEAST, GREATEST};
    private static final String LAMBDA = State.LAMBDA;
    private static final String[] LOWEST = {State.CLOSURE, State.INT, State.ERROR};
    private static final String[] NOT_LAMBDAS = {"5", "v1", "(app v1 v1)", "(+ 1 2)", "(if 1 2 3)", "(let v1 1 2)",
        "(letrec v1 (lam v2 v2) v1)", "(letrec2 v1 (lam v2 v2) v3 (lam v2 v2) v1)"};

    public static void main(String[] args) {
        pushNum();
        pushVar();
        pushLam();
        pushApp();
        pushPrim();
        pushIf();
        pushLet();
        letrecVariables();
        letrecItems();
        letrecLambdas();
        letrecFull();
        severalConditions();
        pushesKeepTheResult();
        refusalsChangeNothing();
        popsInOrder();
        Check.end();
    }

    private static String[] above(String lowest, String... items) {
        String[] all = new String[items.length + 1];
        all[0] = lowest;
        System.arraycopy(items, 0, all, 1, items.length);
        return all;
    }

    /** With these items and no others: never run, the first one run, and on an object used before. */
    private static void refused(String what, ToIntFunction<SafeClosures> push, String... items) {
        Unchanged.by(what, () -> State.items(items), push, R);
        Unchanged.by(what + " after clear()", () -> State.cleared(items), push, R);
        if (items.length > 0) {
            Unchanged.by(what + " after run()", () -> State.ran(items), push, R);
        }
    }

    /** With these items above others, the lowest of which was run. */
    private static void refusedAbove(String what, ToIntFunction<SafeClosures> push, String... items) {
        refused(what, push, items);
        for (String lowest : LOWEST) {
            String[] all = above(lowest, items);
            Unchanged.by(what + " above " + lowest, () -> State.ran(all), push, R);
        }
    }

    /** Made with these items and one node free; refused with no node free. */
    private static void refusedWhenFull(String what, ToIntFunction<SafeClosures> push, String... items) {
        Check.same(what + " as the last node", push.applyAsInt(State.grown(State.ran(items), 31)), 31);
        Unchanged.by(what + " with all nodes made", () -> State.grown(State.ran(items), 32), push, R);
    }

    private static void made(String what, ToIntFunction<SafeClosures> push, int popped, String... items) {
        SafeClosures x = State.ran(items);
        int nodes = State.nodeCount(x);
        int kind = x.resultKind();
        int value = x.resultValue();
        int calls = x.callsUsed();
        int peak = x.peakLive();
        Check.same(what, push.applyAsInt(x), nodes);
        Check.left(what, x, kind, value, calls, peak);
        Check.same(what + ": nodes", State.nodeCount(x), nodes + 1);
        Check.same(what + ": items", State.countItems(x), items.length - popped + 1);
    }

    /** Made with just the items it needs, and above others whose result stays held. */
    private static void madeWith(String what, ToIntFunction<SafeClosures> push, String... items) {
        made(what, push, items.length, items);
        for (String lowest : LOWEST) {
            made(what + " above " + lowest, push, items.length, above(lowest, items));
        }
    }

    private static void pushNum() {
        Check.sentence("Promise 2: pushNum(k) makes NUM k for any int k");
        for (int k : new int[] {0, 1, -1, 7, 8, 127, 128, 255, 256, 32767, 32768, 65536, LEAST, LEAST + 1, GREATEST}) {
            SafeClosures x = State.items();
            Check.same("pushNum(" + k + ")", x.pushNum(k), 0);
            Check.same("run()", x.run(), SafeClosures.OK);
            Check.left("NUM " + k, x, SafeClosures.KIND_INT, k, 0, 0);
            made("pushNum(" + k + ")", o -> o.pushNum(k), 0, State.CLOSURE);
        }
        Check.sentence("Promise 2: Refused if MAX_NODES nodes exist");
        for (int k : new int[] {0, -1, LEAST, GREATEST}) {
            refusedWhenFull("pushNum(" + k + ")", o -> o.pushNum(k), State.CLOSURE);
            refusedWhenFull("pushNum(" + k + ")", o -> o.pushNum(k), State.INT, "1");
        }
        SafeClosures x = State.items();
        for (int i = 0; i < SafeClosures.MAX_NODES; i++) {
            Check.same("pushNum, nodes " + i, x.pushNum(i), i);
        }
        Check.same("pushNum with every node an item", x.pushNum(1), R);
    }

    private static void pushVar() {
        Check.sentence("Promise 3: x not in 0..7");
        for (int x : NO_VARIABLES) {
            refusedAbove("pushVar(" + x + ")", o -> o.pushVar(x));
        }
        for (int x = 0; x < SafeClosures.NUM_VARS; x++) {
            int variable = x;
            Check.same("pushVar(" + x + ")", State.items().pushVar(x), 0);
            made("pushVar(" + x + ")", o -> o.pushVar(variable), 0, State.ERROR);
            SafeClosures bound = State.items("5");
            bound.pushVar(x);
            bound.pushLet(x);
            Check.same("VAR " + x + " bound: run()", bound.run(), SafeClosures.OK);
            Check.same("VAR " + x + " bound: resultValue()", bound.resultValue(), 5);
        }
        Check.sentence("Promise 3: MAX_NODES nodes exist");
        refusedWhenFull("pushVar(0)", o -> o.pushVar(0), State.INT);
        refusedWhenFull("pushVar(7)", o -> o.pushVar(7), State.CLOSURE, "1");
    }

    private static void pushLam() {
        Check.sentence("Promise 4: x not in 0..7");
        for (int x : NO_VARIABLES) {
            refusedAbove("pushLam(" + x + ")", o -> o.pushLam(x), LAMBDA);
        }
        for (int x = 0; x < SafeClosures.NUM_VARS; x++) {
            int variable = x;
            madeWith("pushLam(" + x + ")", o -> o.pushLam(variable), LAMBDA);
        }
        Check.sentence("Promise 4: build stack empty");
        for (int x = 0; x < SafeClosures.NUM_VARS; x++) {
            int variable = x;
            refused("pushLam(" + x + ")", o -> o.pushLam(variable));
        }
        Check.sentence("Promise 4: MAX_NODES nodes exist");
        refusedWhenFull("pushLam(0)", o -> o.pushLam(0), LAMBDA);
        refusedWhenFull("pushLam(7)", o -> o.pushLam(7), State.INT, LAMBDA);
    }

    private static void pushApp() {
        Check.sentence("Promise 5: fewer than 2 stack items");
        refused("pushApp() with no item", o -> o.pushApp());
        refused("pushApp() with one item", o -> o.pushApp(), LAMBDA);
        refused("pushApp() with one item", o -> o.pushApp(), State.INT);
        madeWith("pushApp()", o -> o.pushApp(), LAMBDA, "3");
        Check.sentence("Promise 5: MAX_NODES nodes exist");
        refusedWhenFull("pushApp()", o -> o.pushApp(), State.CLOSURE, "3");
        refusedWhenFull("pushApp()", o -> o.pushApp(), State.INT, LAMBDA, "3");
    }

    private static void pushPrim() {
        Check.sentence("Promise 6: op not in 0..4");
        for (int op : new int[] {-1, 5, -2, 6, 7, 8, 31, 32, 256, -4, LEAST, GREATEST}) {
            refusedAbove("pushPrim(" + op + ")", o -> o.pushPrim(op), "7", "3");
        }
        for (int op = SafeClosures.OP_ADD; op <= SafeClosures.OP_EQ; op++) {
            int operator = op;
            madeWith("pushPrim(" + op + ")", o -> o.pushPrim(operator), "7", "3");
        }
        Check.sentence("Promise 6: fewer than 2 stack items");
        for (int op = SafeClosures.OP_ADD; op <= SafeClosures.OP_EQ; op++) {
            int operator = op;
            refused("pushPrim(" + op + ") with no item", o -> o.pushPrim(operator));
            refused("pushPrim(" + op + ") with one item", o -> o.pushPrim(operator), LAMBDA);
        }
        Check.sentence("Promise 6: MAX_NODES nodes exist");
        refusedWhenFull("pushPrim(0)", o -> o.pushPrim(0), State.INT, "3");
        refusedWhenFull("pushPrim(4)", o -> o.pushPrim(4), State.CLOSURE, "7", "3");
    }

    private static void pushIf() {
        Check.sentence("Promise 7: fewer than 3 stack items");
        refused("pushIf() with no item", o -> o.pushIf());
        refused("pushIf() with one item", o -> o.pushIf(), State.INT);
        refused("pushIf() with two items", o -> o.pushIf(), State.CLOSURE, "2");
        refused("pushIf() with two items", o -> o.pushIf(), State.INT, LAMBDA);
        madeWith("pushIf()", o -> o.pushIf(), "1", "2", LAMBDA);
        Check.sentence("Promise 7: MAX_NODES nodes exist");
        refusedWhenFull("pushIf()", o -> o.pushIf(), State.INT, "2", "3");
        refusedWhenFull("pushIf()", o -> o.pushIf(), State.CLOSURE, "1", "2", "3");
    }

    private static void pushLet() {
        Check.sentence("Promise 8: x not in 0..7");
        for (int x : NO_VARIABLES) {
            refusedAbove("pushLet(" + x + ")", o -> o.pushLet(x), LAMBDA, "3");
        }
        for (int x = 0; x < SafeClosures.NUM_VARS; x++) {
            int variable = x;
            madeWith("pushLet(" + x + ")", o -> o.pushLet(variable), "3", LAMBDA);
        }
        Check.sentence("Promise 8: fewer than 2 stack items");
        for (int x = 0; x < SafeClosures.NUM_VARS; x++) {
            int variable = x;
            refused("pushLet(" + x + ") with no item", o -> o.pushLet(variable));
            refused("pushLet(" + x + ") with one item", o -> o.pushLet(variable), State.CLOSURE);
        }
        Check.sentence("Promise 8: MAX_NODES nodes exist");
        refusedWhenFull("pushLet(0)", o -> o.pushLet(0), State.INT, "3");
        refusedWhenFull("pushLet(7)", o -> o.pushLet(7), State.CLOSURE, "7", "3");
    }

    private static void letrecVariables() {
        Check.sentence("Promise 9: x1 not in 0..7");
        for (int x : NO_VARIABLES) {
            refusedAbove("pushLetrec(" + x + ", -1)", o -> o.pushLetrec(x, ONE), LAMBDA, "3");
            refusedAbove("pushLetrec(" + x + ", 0)", o -> o.pushLetrec(x, 0), LAMBDA, LAMBDA, "3");
        }
        Check.sentence("Promise 9: x2 != NO_SECOND and x2 not in 0..7");
        for (int x : NO_VARIABLES) {
            if (x != ONE) {
                refusedAbove("pushLetrec(0, " + x + ")", o -> o.pushLetrec(0, x), LAMBDA, LAMBDA, "3");
            }
        }
        Check.sentence("Promise 9: x2 == x1");
        for (int x = 0; x < SafeClosures.NUM_VARS; x++) {
            int same = x;
            refusedAbove("pushLetrec(" + x + ", " + x + ")", o -> o.pushLetrec(same, same), LAMBDA, LAMBDA, "3");
        }
        Check.sentence("Promise 9: in range");
        for (int x1 = 0; x1 < SafeClosures.NUM_VARS; x1++) {
            int first = x1;
            madeWith("pushLetrec(" + x1 + ", -1)", o -> o.pushLetrec(first, ONE), LAMBDA, "3");
            for (int x2 = 0; x2 < SafeClosures.NUM_VARS; x2++) {
                int second = x2;
                if (x2 != x1) {
                    madeWith("pushLetrec(" + x1 + ", " + x2 + ")", o -> o.pushLetrec(first, second),
                        LAMBDA, LAMBDA, "3");
                }
            }
        }
    }

    private static void letrecItems() {
        Check.sentence("Promise 9: fewer stack items than needed");
        refused("one binding, no item", o -> o.pushLetrec(0, ONE));
        refused("one binding, one item", o -> o.pushLetrec(0, ONE), LAMBDA);
        refused("two bindings, no item", o -> o.pushLetrec(0, 1));
        refused("two bindings, one item", o -> o.pushLetrec(0, 1), LAMBDA);
        refused("two bindings, two items", o -> o.pushLetrec(0, 1), LAMBDA, LAMBDA);
        refused("two bindings, two items", o -> o.pushLetrec(7, 0), LAMBDA, "3");
        made("one binding, two items", o -> o.pushLetrec(7, ONE), 2, LAMBDA, LAMBDA);
        made("one binding, three items", o -> o.pushLetrec(7, ONE), 2, LAMBDA, LAMBDA, LAMBDA);
        made("two bindings, three items", o -> o.pushLetrec(7, 0), 3, LAMBDA, LAMBDA, LAMBDA);
    }

    private static void letrecLambdas() {
        Check.sentence("Promise 9: l1 (or l2) is not a LAM node");
        for (String other : NOT_LAMBDAS) {
            refusedAbove("l1 is " + other, o -> o.pushLetrec(0, ONE), other, LAMBDA);
            refusedAbove("l1 of two is " + other, o -> o.pushLetrec(0, 1), other, LAMBDA, LAMBDA);
            refusedAbove("l2 is " + other, o -> o.pushLetrec(0, 1), LAMBDA, other, LAMBDA);
            refusedAbove("l1 and l2 are " + other, o -> o.pushLetrec(0, 1), other, other, LAMBDA);
            madeWith("b is " + other, o -> o.pushLetrec(0, ONE), LAMBDA, other);
            madeWith("b of two is " + other, o -> o.pushLetrec(0, 1), LAMBDA, LAMBDA, other);
            made("one binding above " + other, o -> o.pushLetrec(0, ONE), 2, other, LAMBDA, "3");
        }
    }

    private static void letrecFull() {
        Check.sentence("Promise 9: MAX_NODES nodes exist");
        refusedWhenFull("one binding", o -> o.pushLetrec(0, ONE), LAMBDA, "3");
        refusedWhenFull("one binding", o -> o.pushLetrec(7, ONE), State.CLOSURE, LAMBDA, "3");
        refusedWhenFull("two bindings", o -> o.pushLetrec(0, 7), LAMBDA, LAMBDA, "3");
        refusedWhenFull("two bindings", o -> o.pushLetrec(7, 0), State.INT, LAMBDA, LAMBDA, "3");
    }

    private static void severalConditions() {
        Check.sentence("Promises 3 to 9: several refusal conditions at once");
        for (int x : new int[] {-1, 8, LEAST, GREATEST}) {
            refused("pushLam(" + x + ")", o -> o.pushLam(x));
            refused("pushPrim(" + x + ")", o -> o.pushPrim(x), "1");
            refused("pushLet(" + x + ")", o -> o.pushLet(x), "1");
            refused("pushLetrec(" + x + ", -1)", o -> o.pushLetrec(x, ONE), "1");
            refused("pushLetrec(" + x + ", " + x + ")", o -> o.pushLetrec(x, x), "1", "2", "3");
            refusedFull("pushVar(" + x + ")", o -> o.pushVar(x));
            refusedFull("pushLam(" + x + ")", o -> o.pushLam(x));
            refusedFull("pushPrim(" + x + ")", o -> o.pushPrim(x));
            refusedFull("pushLet(" + x + ")", o -> o.pushLet(x));
            refusedFull("pushLetrec(" + x + ", 0)", o -> o.pushLetrec(x, 0));
        }
        refusedFull("pushApp() with one item", o -> o.pushApp());
        refusedFull("pushPrim(0) with one item", o -> o.pushPrim(0));
        refusedFull("pushIf() with one item", o -> o.pushIf());
        refusedFull("pushLet(0) with one item", o -> o.pushLet(0));
        refusedFull("pushLetrec(0, -1) with one item", o -> o.pushLetrec(0, ONE));
        refusedFull("pushLetrec(0, 1) with one item", o -> o.pushLetrec(0, 1));
        refused("pushLetrec(0, 1), too few and no LAM", o -> o.pushLetrec(0, 1), "1", "2");
    }

    private static void refusedFull(String what, ToIntFunction<SafeClosures> push) {
        Unchanged.by(what, () -> State.grown(State.ran(State.CLOSURE), 32), push, R);
    }

    /** Each push method with arguments that are in range. */
    private static List<ToIntFunction<SafeClosures>> everyPush() {
        return List.of(o -> o.pushNum(4), o -> o.pushVar(1), o -> o.pushLam(1), o -> o.pushApp(),
            o -> o.pushPrim(SafeClosures.OP_SUB), o -> o.pushIf(), o -> o.pushLet(1), o -> o.pushLetrec(1, ONE),
            o -> o.pushLetrec(1, 2));
    }

    private static void pushesKeepTheResult() {
        Check.sentence("Promises 2 to 9: For every push method: the held result, callsUsed and peakLive are not "
            + "changed");
        List<ToIntFunction<SafeClosures>> pushes = everyPush();
        for (int i = 0; i < pushes.size(); i++) {
            SafeClosures closure = State.ran(State.CLOSURE, LAMBDA, LAMBDA, "3");
            Check.same("push " + i + " above a closure's program", pushes.get(i).applyAsInt(closure), 18);
            Check.left("push " + i + ", a closure is held", closure, SafeClosures.KIND_CLOSURE, 5, 1, 2);
            Check.same("push " + i + ", then callResult(9)", closure.callResult(9), SafeClosures.OK);
            Check.left("push " + i + ", then callResult(9)", closure, SafeClosures.KIND_INT, 8, 1, 0);
            SafeClosures number = State.ran(State.INT, LAMBDA, LAMBDA, "3");
            Check.same("push " + i + " above an int's program", pushes.get(i).applyAsInt(number), 20);
            Check.left("push " + i + ", an int is held", number, SafeClosures.KIND_INT, 3, 2, 2);
            SafeClosures error = State.ran(State.ERROR, LAMBDA, LAMBDA, "3");
            Check.same("push " + i + " above an error's program", pushes.get(i).applyAsInt(error), 18);
            Check.left("push " + i + ", nothing is held", error, SafeClosures.KIND_NONE, 0, 1, 2);
        }
    }

    private static int refusedThrice(SafeClosures x) {
        Check.same("pushVar(8)", x.pushVar(8), R);
        Check.same("pushIf() with two items", x.pushIf(), R);
        return x.pushLetrec(0, 0);
    }

    private static void refusalsChangeNothing() {
        Check.sentence("Promises 2 to 9: on refusal nothing at all changes");
        List<ToIntFunction<SafeClosures>> pushes = everyPush();
        for (int i = 0; i < pushes.size(); i++) {
            ToIntFunction<SafeClosures> push = pushes.get(i);
            for (String lowest : LOWEST) {
                Unchanged.by("push " + i, () -> State.grown(State.ran(lowest, LAMBDA, LAMBDA, "3"), 32), push, R);
                Unchanged.by("push " + i, () -> State.grown(State.ran(lowest), 32), push, R);
            }
        }
        for (String lowest : LOWEST) {
            Unchanged.by("refusals one after another", () -> State.ran(lowest, "1"), o -> refusedThrice(o), R);
        }
    }

    /** What the pushed node gives, alone and added to an item that lies below those it takes. */
    private static void gives(String what, int value, ToIntFunction<SafeClosures> push, String... items) {
        SafeClosures x = State.items(items);
        push.applyAsInt(x);
        Check.same(what + ": run()", x.run(), SafeClosures.OK);
        Check.same(what + ": resultValue()", x.resultValue(), value);
        SafeClosures more = State.items(above("100", items));
        push.applyAsInt(more);
        Check.same(what + " above an item: run()", more.run(), R);
        more.pushPrim(SafeClosures.OP_ADD);
        Check.same(what + " above an item, added: run()", more.run(), SafeClosures.OK);
        Check.same(what + " above an item, added: resultValue()", more.resultValue(), value + 100);
    }

    /** Makes the top item a lambda's body, calls that, and takes the answer from the item below. */
    private static int lamCalled(SafeClosures x) {
        x.pushLam(3);
        x.pushNum(0);
        x.pushApp();
        return x.pushPrim(SafeClosures.OP_SUB);
    }

    private static void popsInOrder() {
        Check.sentence("Promise 4: pops b (the top)");
        gives("LAM", 3, o -> lamCalled(o), "7", "4");
        Check.sentence("Promise 5: pops a (the top), then f");
        gives("APP", 8, o -> o.pushApp(), "(lam v0 v0)", "8");
        Check.sentence("Promise 6: pops r (the top), then l");
        int[] answers = {13, 9, 22, 0, 0};
        for (int op = SafeClosures.OP_ADD; op <= SafeClosures.OP_EQ; op++) {
            int operator = op;
            gives("PRIM " + op, answers[op], o -> o.pushPrim(operator), "11", "2");
        }
        gives("PRIM, l is less", 1, o -> o.pushPrim(SafeClosures.OP_LT), "2", "11");
        Check.sentence("Promise 7: pops e (the top), then t, then c");
        gives("IF, c is 1", 20, o -> o.pushIf(), "1", "20", "30");
        gives("IF, c is 0", 30, o -> o.pushIf(), "0", "20", "30");
        Check.sentence("Promise 8: pops e2 (the top), then e1");
        gives("LET", 15, o -> o.pushLet(0), "5", "(+ v0 10)");
        Check.sentence("Promise 9: pops b, then l2 if present, then l1");
        gives("LETREC, one", 70, o -> o.pushLetrec(0, ONE), "(lam v1 (* v1 10))", "(app v0 7)");
        gives("LETREC, one, b binds its name again", 6, o -> o.pushLetrec(0, ONE), "(lam v1 (* v1 10))",
            "(app (lam v0 v0) 6)");
        gives("LETREC, two", 63, o -> o.pushLetrec(0, 1), "(lam v2 (* v2 10))", "(lam v2 (- 0 v2))",
            "(+ (app v0 7) (app v1 7))");
    }
}
