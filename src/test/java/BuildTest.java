/** Promises 2 to 9: what each push method makes, of what it takes from the build stack. */
public final class BuildTest {
    private static final int R = SafeClosures.REFUSED;
    private static final int OK = SafeClosures.OK;
    private static final int INT = SafeClosures.KIND_INT;
    private static final int CLOSURE = SafeClosures.KIND_CLOSURE;
    private static final int ONE = SafeClosures.NO_SECOND;
    private static final int LEAST = Integer.MIN_VALUE;
    private static final int GREATEST = Integer.MAX_VALUE;
    private static final int[] NO_VARIABLES = {-1, 8, -2, 9, 31, 32, 33, 64, 256, LEAST, GREATEST};

    public static void main(String[] args) {
        pushNum();
        pushVar();
        pushLam();
        pushApp();
        pushPrim();
        pushIf();
        pushLet();
        pushLetrecOne();
        pushLetrecTwo();
        letrecNeedsLambdas();
        fullTable();
        fullTableOfLambdas();
        pushesKeepTheResult();
        refusedPushesKeepTheStack();
        Check.end();
    }

    private static SafeClosures plain() {
        return new SafeClosures(100, 32, 32);
    }

    private static void pushNum() {
        int[] constants = {0, 1, -1, 7, 8, 255, 256, -1000000, LEAST, GREATEST};
        for (int k : constants) {
            SafeClosures x = plain();
            Check.same("2 pushNum(" + k + ")", x.pushNum(k), 0);
            Check.same("2 NUM " + k + ": freeVars(0)", x.freeVars(0), 0);
            Check.same("2 NUM " + k + ": run()", x.run(), OK);
            Check.left("2 NUM " + k, x, INT, k, 0, 0);
        }
        SafeClosures x = plain();
        Check.same("2 first", x.pushNum(4), 0);
        Check.same("2 second", x.pushNum(9), 1);
        Check.same("2 pops nothing: run()", x.run(), R);
        Check.same("2 pops nothing: pushPrim", x.pushPrim(SafeClosures.OP_SUB), 2);
        x.run();
        Check.same("2 order", x.resultValue(), -5);
    }

    private static void pushVar() {
        for (int v = 0; v < 8; v++) {
            SafeClosures x = plain();
            Check.same("3 pushVar(" + v + ")", x.pushVar(v), 0);
            Check.same("3 VAR " + v + ": freeVars(0)", x.freeVars(0), 1 << v);
            Check.same("3 VAR " + v + ": run()", x.run(), SafeClosures.ERR_UNBOUND);
            Check.same("3 pops nothing", x.pushVar(v), 1);
            Check.same("3 pops nothing: run()", x.run(), R);
        }
        for (int v : NO_VARIABLES) {
            SafeClosures x = plain();
            Check.same("3 pushVar(" + v + ")", x.pushVar(v), R);
            Check.same("3 refused makes no node", x.freeVars(0), R);
            Check.same("3 refused makes no item", x.pushLam(0), R);
            Check.same("3 refused counts no index", x.pushVar(0), 0);
        }
    }

    private static void pushLam() {
        for (int v = 0; v < 8; v++) {
            SafeClosures x = plain();
            Check.same("4 empty stack: pushLam(" + v + ")", x.pushLam(v), R);
            x.pushVar(v);
            Check.same("4 pushLam(" + v + ")", x.pushLam(v), 1);
            Check.same("4 run()", x.run(), OK);
            Check.left("4 LAM " + v, x, CLOSURE, 1, 0, 1);
            Check.same("4 callResult(77)", x.callResult(77), OK);
            Check.left("4 LAM " + v + " called", x, INT, 77, 1, 0);
        }
        for (int v : NO_VARIABLES) {
            SafeClosures x = plain();
            x.pushNum(6);
            Check.same("4 pushLam(" + v + ")", x.pushLam(v), R);
            Check.same("4 refused keeps the stack: run()", x.run(), OK);
            Check.same("4 refused keeps the stack: resultValue()", x.resultValue(), 6);
            Check.same("4 refused counts no index", x.pushLam(0), 1);
        }
        SafeClosures x = plain();
        x.pushNum(3);
        x.pushNum(4);
        Check.same("4 takes the top", x.pushLam(2), 2);
        Check.same("4 pops one item only: run()", x.run(), R);
        x.pushNum(0);
        x.pushApp();
        x.pushPrim(SafeClosures.OP_SUB);
        x.run();
        Check.same("4 the body was the top", x.resultValue(), -1);
    }

    private static void pushApp() {
        SafeClosures x = plain();
        Check.same("5 no item", x.pushApp(), R);
        x.pushVar(1);
        Check.same("5 one item", x.pushApp(), R);
        x.pushLam(1);
        x.pushNum(8);
        Check.same("5 pushApp()", x.pushApp(), 3);
        Check.same("5 pops both: run()", x.run(), OK);
        Check.left("5 f is below a", x, INT, 8, 1, 1);
        SafeClosures three = plain();
        three.pushNum(1);
        Source.push(three, "(lam v0 v0)");
        three.pushNum(2);
        Check.same("5 of three items", three.pushApp(), 4);
        Check.same("5 leaves the third: run()", three.run(), R);
        Check.same("5 leaves the third: pushPrim", three.pushPrim(SafeClosures.OP_ADD), 5);
        three.run();
        Check.same("5 leaves the third: resultValue()", three.resultValue(), 3);
    }

    private static void pushPrim() {
        for (int op = 0; op <= 4; op++) {
            SafeClosures x = plain();
            Check.same("6 no item", x.pushPrim(op), R);
            x.pushNum(7);
            Check.same("6 one item", x.pushPrim(op), R);
            x.pushNum(3);
            Check.same("6 pushPrim(" + op + ")", x.pushPrim(op), 2);
            Check.same("6 pops both: run()", x.run(), OK);
            int[] due = {10, 4, 21, 0, 0};
            Check.left("6 operator " + op, x, INT, due[op], 0, 0);
        }
        int[] noOperators = {-1, 5, -2, 6, 8, 256, LEAST, GREATEST};
        for (int op : noOperators) {
            SafeClosures x = plain();
            x.pushNum(7);
            x.pushNum(3);
            Check.same("6 pushPrim(" + op + ")", x.pushPrim(op), R);
            Check.same("6 refused keeps the stack", x.run(), R);
            Check.same("6 refused counts no index", x.pushPrim(SafeClosures.OP_SUB), 2);
            x.run();
            Check.same("6 refused keeps the order", x.resultValue(), 4);
        }
    }

    private static void pushIf() {
        for (int items = 0; items < 3; items++) {
            SafeClosures x = plain();
            for (int i = 0; i < items; i++) {
                x.pushNum(i);
            }
            Check.same("7 with items " + items, x.pushIf(), R);
            Check.same("7 refused counts no index", x.pushNum(0), items);
        }
        int[] tests = {0, 1, -1, 2, LEAST, GREATEST};
        for (int test : tests) {
            SafeClosures x = plain();
            x.pushNum(test);
            x.pushNum(10);
            x.pushNum(20);
            Check.same("7 pushIf()", x.pushIf(), 3);
            Check.same("7 pops all: run()", x.run(), OK);
            Check.left("7 if " + test, x, INT, test != 0 ? 10 : 20, 0, 0);
        }
        SafeClosures four = plain();
        four.pushNum(5);
        four.pushNum(0);
        four.pushNum(10);
        four.pushNum(20);
        Check.same("7 of four items", four.pushIf(), 4);
        Check.same("7 leaves the fourth", four.pushPrim(SafeClosures.OP_SUB), 5);
        four.run();
        Check.same("7 leaves the fourth: resultValue()", four.resultValue(), -15);
    }

    private static void pushLet() {
        for (int v = 0; v < 8; v++) {
            SafeClosures x = plain();
            Check.same("8 no item", x.pushLet(v), R);
            x.pushNum(12);
            Check.same("8 one item", x.pushLet(v), R);
            x.pushVar(v);
            Check.same("8 pushLet(" + v + ")", x.pushLet(v), 2);
            Check.same("8 pops both: run()", x.run(), OK);
            Check.left("8 LET " + v, x, INT, 12, 0, 0);
        }
        for (int v : NO_VARIABLES) {
            SafeClosures x = plain();
            x.pushNum(12);
            x.pushVar(0);
            Check.same("8 pushLet(" + v + ")", x.pushLet(v), R);
            Check.same("8 refused counts no index", x.pushLet(0), 2);
            Check.same("8 refused keeps the stack", x.run(), OK);
        }
        SafeClosures x = plain();
        x.pushNum(40);
        x.pushNum(2);
        x.pushVar(1);
        Check.same("8 of three items", x.pushLet(1), 3);
        Check.same("8 leaves the third", x.pushPrim(SafeClosures.OP_ADD), 4);
        x.run();
        Check.same("8 leaves the third: resultValue()", x.resultValue(), 42);
    }

    private static void pushLetrecOne() {
        for (int v = 0; v < 8; v++) {
            int other = (v + 1) % 8;
            SafeClosures x = plain();
            Check.same("9 no item", x.pushLetrec(v, ONE), R);
            x.pushVar(other);
            x.pushLam(other);
            Check.same("9 one item", x.pushLetrec(v, ONE), R);
            x.pushVar(v);
            Check.same("9 pushLetrec(" + v + ", -1)", x.pushLetrec(v, ONE), 3);
            Check.same("9 pops both: run()", x.run(), OK);
            Check.left("9 LETREC " + v, x, CLOSURE, 1, 0, 1);
        }
        for (int v : NO_VARIABLES) {
            SafeClosures x = plain();
            Source.push(x, "(lam v1 v1)");
            Source.push(x, "(lam v1 v1)");
            x.pushNum(3);
            Check.same("9 pushLetrec(" + v + ", -1)", x.pushLetrec(v, ONE), R);
            Check.same("9 pushLetrec(" + v + ", 1)", x.pushLetrec(v, 1), R);
            Check.same("9 pushLetrec(" + v + ", " + v + ")", x.pushLetrec(v, v), R);
            if (v != ONE) {
                Check.same("9 pushLetrec(1, " + v + ")", x.pushLetrec(1, v), R);
            }
            Check.same("9 refused counts no index", x.pushLetrec(0, 1), 5);
            Check.same("9 refused keeps the stack", x.run(), OK);
        }
        SafeClosures x = plain();
        x.pushNum(30);
        Source.push(x, "(lam v1 (+ v1 v1))");
        Source.push(x, "(app v0 6)");
        Check.same("9 of three items", x.pushLetrec(0, ONE), 8);
        Check.same("9 leaves the third", x.pushPrim(SafeClosures.OP_SUB), 9);
        x.run();
        Check.same("9 leaves the third: resultValue()", x.resultValue(), 18);
    }

    private static void pushLetrecTwo() {
        for (int v = 0; v < 8; v++) {
            for (int w = 0; w < 8; w++) {
                SafeClosures x = plain();
                Check.same("9 two, no item", x.pushLetrec(v, w), R);
                Source.push(x, "(lam v0 (+ v0 1))");
                Check.same("9 two, one item", x.pushLetrec(v, w), R);
                Source.push(x, "(lam v0 (* v0 10))");
                Check.same("9 two, two items", x.pushLetrec(v, w), R);
                Source.push(x, "(- (app v" + v + " 5) (app v" + w + " 7))");
                Check.same("9 pushLetrec(" + v + ", " + w + ")", x.pushLetrec(v, w), v == w ? R : 15);
                Check.same("9 two: run()", x.run(), v == w ? R : OK);
                if (v != w) {
                    Check.left("9 l1 is the lowest", x, INT, 6 - 70, 2, 2);
                }
            }
        }
        SafeClosures four = plain();
        four.pushNum(30);
        Source.push(four, "(lam v2 v2)");
        Source.push(four, "(lam v2 v2)");
        four.pushNum(4);
        Check.same("9 two of four items", four.pushLetrec(0, 1), 6);
        Check.same("9 two leave the fourth", four.pushPrim(SafeClosures.OP_ADD), 7);
        four.run();
        Check.same("9 two leave the fourth: resultValue()", four.resultValue(), 34);
    }

    private static void letrecNeedsLambdas() {
        String[] others = {"5", "v1", "(app v1 v1)", "(+ 1 2)", "(if 1 2 3)", "(let v1 1 2)",
            "(letrec v1 (lam v2 v2) v1)", "(letrec2 v1 (lam v2 v2) v3 (lam v2 v2) v1)"};
        for (String other : others) {
            SafeClosures x = plain();
            Source.push(x, other);
            Source.push(x, "(lam v1 v1)");
            Check.same("9 l1 is " + other, x.pushLetrec(0, ONE), R);
            SafeClosures first = plain();
            Source.push(first, other);
            Source.push(first, "(lam v1 v1)");
            first.pushNum(1);
            Check.same("9 l1 of two is " + other, first.pushLetrec(0, 1), R);
            Check.holds("9 as one it does not stand", first.pushLetrec(0, ONE) != R);
            SafeClosures second = plain();
            Source.push(second, "(lam v1 v1)");
            Source.push(second, other);
            second.pushNum(1);
            Check.same("9 l2 is " + other, second.pushLetrec(0, 1), R);
            Check.same("9 as one, l1 is " + other, second.pushLetrec(0, ONE), R);
        }
        SafeClosures body = plain();
        Source.push(body, "(lam v1 v1)");
        body.pushNum(9);
        Check.same("9 the body need be no LAM", body.pushLetrec(0, ONE), 3);
    }

    private static void fullTable() {
        SafeClosures x = plain();
        for (int i = 0; i < 32; i++) {
            Check.same("2 index", x.pushNum(i), i);
        }
        refusesAll(x);
        Check.same("10 full, many items", x.run(), R);
        Check.same("16 last node", x.freeVars(31), 0);
        Check.same("16 beyond the last node", x.freeVars(32), R);
        x.clear();
        Check.same("12 the table is free again", x.pushNum(1), 0);
    }

    private static void refusesAll(SafeClosures x) {
        Check.same("2 full", x.pushNum(1), R);
        Check.same("3 full", x.pushVar(1), R);
        Check.same("4 full", x.pushLam(1), R);
        Check.same("5 full", x.pushApp(), R);
        Check.same("6 full", x.pushPrim(0), R);
        Check.same("7 full", x.pushIf(), R);
        Check.same("8 full", x.pushLet(1), R);
        Check.same("9 full, one", x.pushLetrec(1, ONE), R);
        Check.same("9 full, two", x.pushLetrec(1, 2), R);
    }

    /** Items that are all LAM nodes, so that only the full table can refuse a LETREC. */
    private static SafeClosures lambdas(int items, int nodes) {
        SafeClosures x = plain();
        for (int i = 0; i < items; i++) {
            Source.push(x, "(lam v0 1)");
        }
        for (int i = 2 * items; i < nodes; i++) {
            Check.same("4 index", x.pushLam(0), i);
        }
        return x;
    }

    private static void fullTableOfLambdas() {
        for (int items = 1; items <= 4; items++) {
            refusesAll(lambdas(items, 32));
        }
        Check.same("4 the last node", lambdas(1, 31).pushLam(7), 31);
        Check.same("5 the last node", lambdas(2, 31).pushApp(), 31);
        Check.same("6 the last node", lambdas(2, 31).pushPrim(4), 31);
        Check.same("7 the last node", lambdas(3, 31).pushIf(), 31);
        Check.same("8 the last node", lambdas(2, 31).pushLet(7), 31);
        Check.same("9 the last node, one", lambdas(2, 31).pushLetrec(7, ONE), 31);
        SafeClosures x = lambdas(3, 31);
        Check.same("9 the last node, two", x.pushLetrec(1, 2), 31);
        Check.same("3 full, one item", x.pushVar(0), R);
        refusesAll(x);
        Check.same("10 full: run()", x.run(), OK);
        Check.left("10 full", x, CLOSURE, 30, 0, 1);
    }

    private static void pushEach(SafeClosures x) {
        x.pushNum(1);
        x.pushVar(1);
        x.pushLam(1);
        x.pushApp();
        x.pushNum(1);
        x.pushPrim(0);
        x.pushNum(1);
        x.pushNum(1);
        x.pushIf();
        x.pushNum(1);
        x.pushLet(1);
        x.pushLam(0);
        x.pushNum(1);
        x.pushLetrec(1, ONE);
        x.pushLam(1);
        x.pushVar(0);
        x.pushLam(0);
        x.pushVar(0);
        x.pushLetrec(0, 1);
    }

    private static void pushesKeepTheResult() {
        SafeClosures x = Source.object(100, 32, 32, "(app (lam v0 v0) (lam v1 (+ v1 1)))");
        x.run();
        Check.left("pushes: before", x, CLOSURE, 5, 1, 2);
        pushEach(x);
        Check.holds("pushes: not all were made", x.freeVars(24) != R);
        Check.left("pushes: after", x, CLOSURE, 5, 1, 2);
        Check.same("pushes: the held closure still runs", x.callResult(4), OK);
        Check.left("pushes: its answer", x, INT, 5, 1, 0);
        x.pushNum(1);
        x.pushVar(9);
        x.pushLam(-1);
        x.pushPrim(7);
        x.pushLet(8);
        x.pushLetrec(0, 0);
        Check.left("refused pushes: after", x, INT, 5, 1, 0);
    }

    private static void refusedPushesKeepTheStack() {
        SafeClosures x = plain();
        x.pushNum(50);
        x.pushNum(8);
        Check.same("refused", x.pushVar(8), R);
        Check.same("refused", x.pushLam(8), R);
        Check.same("refused", x.pushPrim(5), R);
        Check.same("refused", x.pushIf(), R);
        Check.same("refused", x.pushLet(-1), R);
        Check.same("refused", x.pushLetrec(0, ONE), R);
        Check.same("refused", x.pushLetrec(0, 1), R);
        Check.same("refused: freeVars", x.freeVars(2), R);
        Check.same("refused: next index", x.pushPrim(SafeClosures.OP_SUB), 2);
        Check.same("refused: run()", x.run(), OK);
        Check.same("refused: resultValue()", x.resultValue(), 42);
    }
}
