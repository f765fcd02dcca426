/** "What it is" and "The machine": the edges of every step, of the limits and of the live check. */
public final class MachineTest {
    private static final int OK = SafeClosures.OK;
    private static final int NONE = SafeClosures.KIND_NONE;
    private static final int INT = SafeClosures.KIND_INT;
    private static final int LEAST = Integer.MIN_VALUE;
    private static final int GREATEST = Integer.MAX_VALUE;
    private static final String[] OPERATORS = {"+", "-", "*", "<", "="};
    private static final String LOOP = "(letrec v0 (lam v1 (app v0 v1)) (app v0 1))";

    public static void main(String[] args) {
        arithmeticWraps();
        lessIsSigned();
        equality();
        operandsMustBeInts();
        testMustBeAnInt();
        onlyClosuresAreCalled();
        fuelEdge();
        everyPushIsTested();
        replacingFramesIsNotTested();
        noFrameForLamAndLetrec();
        framesArePoppedFirst();
        environments();
        framesKeepTheirEnvironment();
        letrecEnvironment();
        rootsOfTheState();
        rootsOfArgAndCall();
        rootsOfLeftAndRight();
        rootsOfTest();
        rootsOfBind();
        closuresReach();
        closuresAreDistinct();
        countedAtLamAndLetrec();
        liveLimitEdge();
        errorsEndAtOnce();
        Check.end();
    }

    private static void arithmeticWraps() {
        Check.sentence("OPS: OP_ADD u+v, OP_SUB u-v, OP_MUL u*v, all wrapping as Java int arithmetic");
        int[] numbers = {0, 1, -1, 2, 7, -13, 65536, 46341, 1000000007, GREATEST, LEAST};
        for (int u : numbers) {
            for (int v : numbers) {
                Check.gives("(+ " + u + " " + v + ")", u + v, 0, 0);
                Check.gives("(- " + u + " " + v + ")", u - v, 0, 0);
                Check.gives("(* " + u + " " + v + ")", u * v, 0, 0);
            }
        }
        Check.gives("(+ 2147483647 1)", LEAST, 0, 0);
        Check.gives("(+ 1 2147483647)", LEAST, 0, 0);
        Check.gives("(+ -2147483648 -1)", GREATEST, 0, 0);
        Check.gives("(+ -2147483648 -2147483648)", 0, 0, 0);
        Check.gives("(+ 2147483647 2147483647)", -2, 0, 0);
        Check.gives("(- -2147483648 1)", GREATEST, 0, 0);
        Check.gives("(- 2147483647 -1)", LEAST, 0, 0);
        Check.gives("(- 0 -2147483648)", LEAST, 0, 0);
        Check.gives("(- -2147483648 2147483647)", 1, 0, 0);
        Check.gives("(* 65536 65536)", 0, 0, 0);
        Check.gives("(* 65536 32768)", LEAST, 0, 0);
        Check.gives("(* 46341 46341)", -2147479015, 0, 0);
        Check.gives("(* 46340 46340)", 2147395600, 0, 0);
        Check.gives("(* -2147483648 -1)", LEAST, 0, 0);
        Check.gives("(* 2147483647 2147483647)", 1, 0, 0);
        Check.gives("(* 2147483647 2)", -2, 0, 0);
    }

    private static void lessIsSigned() {
        Check.sentence("OPS: OP_LT: 1 if u<v (signed), else 0");
        int[] rising = {LEAST, LEAST + 1, -65536, -2, -1, 0, 1, 2, 255, 65536, GREATEST - 1, GREATEST};
        for (int i = 0; i < rising.length; i++) {
            for (int j = 0; j < rising.length; j++) {
                Check.gives("(< " + rising[i] + " " + rising[j] + ")", i < j ? 1 : 0, 0, 0);
            }
        }
    }

    private static void equality() {
        Check.sentence("OPS: OP_EQ: 1 if u==v, else 0");
        int[] distinct = {LEAST, LEAST + 1, -1, 0, 1, 255, 256, 65536, 1 << 30, GREATEST};
        for (int u : distinct) {
            for (int v : distinct) {
                Check.gives("(= " + u + " " + v + ")", u == v ? 1 : 0, 0, 0);
            }
        }
    }

    private static void operandsMustBeInts() {
        Check.sentence("The machine, RIGHT(n,u): if u or v is not an int: ERR_TYPE");
        for (String op : OPERATORS) {
            Check.fails("(" + op + " (lam v0 v0) 0)", SafeClosures.ERR_TYPE, 0, 1);
            Check.fails("(" + op + " 0 (lam v0 v0))", SafeClosures.ERR_TYPE, 0, 1);
            Check.fails("(" + op + " (lam v0 v0) (lam v0 v0))", SafeClosures.ERR_TYPE, 0, 2);
            Check.fails("(let v0 (lam v1 v1) (" + op + " v0 v0))", SafeClosures.ERR_TYPE, 0, 1);
            // Nothing is tested before the right side has its value.
            Check.fails("(" + op + " (lam v0 v0) (app 1 2))", SafeClosures.ERR_NOT_FUNCTION, 0, 1);
            Check.fails("(" + op + " (lam v0 v0) " + LOOP + ")", SafeClosures.ERR_FUEL, 100, 2);
        }
    }

    private static void testMustBeAnInt() {
        Check.sentence("The machine, TEST(n,E): if v is not an int: ERR_TYPE");
        Check.fails("(if (lam v0 v0) 1 2)", SafeClosures.ERR_TYPE, 0, 1);
        Check.fails("(letrec v0 (lam v1 v1) (if v0 1 2))", SafeClosures.ERR_TYPE, 0, 1);
        Check.fails("(app (lam v0 (if v0 1 2)) (lam v1 v1))", SafeClosures.ERR_TYPE, 1, 2);
        Check.sentence("The machine, TEST(n,E): If v != 0: EVAL(t,E). Else EVAL(e,E)");
        for (int v : new int[] {1, -1, 2, 256, 65536, 1 << 30, LEAST, LEAST + 1, GREATEST}) {
            Check.gives("(if " + v + " 10 20)", 10, 0, 0);
            Check.gives("(if " + v + " 10 (app 1 2))", 10, 0, 0);
        }
        Check.gives("(if 0 10 20)", 20, 0, 0);
        Check.gives("(if 0 (app 1 2) 20)", 20, 0, 0);
        Check.gives("(if (+ -2147483648 -2147483648) 10 20)", 20, 0, 0);
    }

    private static void onlyClosuresAreCalled() {
        Check.sentence("The machine, CALL(w): if w is not a closure: ERR_NOT_FUNCTION");
        for (int w : new int[] {0, 1, -1, 2, 31, 33, LEAST, GREATEST}) {
            Check.fails("(app " + w + " 1)", SafeClosures.ERR_NOT_FUNCTION, 0, 0);
            Check.fails("(app " + w + " (lam v0 v0))", SafeClosures.ERR_NOT_FUNCTION, 0, 1);
        }
        // The argument is evaluated first.
        Check.fails("(app 1 (if (lam v0 v0) 1 2))", SafeClosures.ERR_TYPE, 0, 1);
        Check.fails("(app 1 " + LOOP + ")", SafeClosures.ERR_FUEL, 100, 1);
        // It is told of an int even where no call is left.
        SafeClosures spent = Source.object(1, 2, 4, "(app (app (lam v0 v0) 5) 6)");
        Check.same("an int called with all fuel spent", spent.run(), SafeClosures.ERR_NOT_FUNCTION);
        Check.left("an int called with all fuel spent", spent, NONE, 0, 1, 1);
    }

    private static String countdown(int turns) {
        return "(letrec v0 (lam v1 (if v1 (app v0 (- v1 1)) 42)) (app v0 " + turns + "))";
    }

    private static void fuelEdge() {
        Check.sentence("CALL STEP: if callsUsed == fuel: ERR_FUEL. Else callsUsed += 1");
        for (int fuel = 1; fuel <= 100; fuel++) {
            SafeClosures most = Source.object(fuel, 2, 4, countdown(fuel - 1));
            Check.same("as many calls as fuel " + fuel, most.run(), OK);
            Check.left("as many calls as fuel " + fuel, most, INT, 42, fuel, 1);
            SafeClosures over = Source.object(fuel, 2, 4, countdown(fuel));
            Check.same("one call more than fuel " + fuel, over.run(), SafeClosures.ERR_FUEL);
            Check.left("one call more than fuel " + fuel, over, NONE, 0, fuel, 1);
        }
    }

    /** Evaluates the text with just so many frames pending, and adds as much to its value. */
    private static SafeClosures under(int frames, int depthLimit, String text) {
        return Source.object(100, 32, depthLimit, "(letrec v0 (lam v1 (if v1 (+ 1 (app v0 (- v1 1))) (+ 1 (+ 1 "
            + text + ")))) (app v0 " + (frames - 2) + "))");
    }

    private static void everyPushIsTested() {
        Check.sentence("PUSH F: if the stack already holds depthLimit frames: ERR_DEPTH");
        String[] pushing = {"(app (lam v2 7) 1)", "(+ 3 4)", "(if 1 7 8)", "(let v2 7 v2)"};
        for (int limit = 4; limit <= 32; limit++) {
            for (String text : pushing) {
                SafeClosures full = under(limit, limit, text);
                Check.same(text + " under " + limit + " frames", full.run(), SafeClosures.ERR_DEPTH);
                Check.left(text + " under " + limit + " frames", full, NONE, 0, limit - 1, 1);
                SafeClosures room = under(limit - 1, limit, text);
                Check.same(text + " under " + (limit - 1) + " of " + limit, room.run(), OK);
                Check.same(text + " under " + (limit - 1) + ": value", room.resultValue(), limit + 6);
            }
        }
        Check.sentence("What it is: tail calls do not accumulate frames; the PUSH itself is still tested");
        SafeClosures tail = Source.object(100, 2, 4, "(+ 1 (+ 1 (+ 1 (+ 1 (app (lam v0 v0) 1)))))");
        Check.same("a call in tail position under 4 of 4 frames", tail.run(), SafeClosures.ERR_DEPTH);
        Check.left("a call in tail position under 4 of 4 frames", tail, NONE, 0, 0, 0);
    }

    private static void replacingFramesIsNotTested() {
        Check.sentence("The machine: push CALL(v) (it replaces the popped frame; no depth test)");
        for (int limit = 4; limit <= 32; limit++) {
            SafeClosures call = under(limit - 1, limit, "(app (lam v2 v2) v1)");
            Check.same("APP as the last frame of " + limit, call.run(), OK);
            Check.left("APP as the last frame of " + limit, call, INT, limit - 1, limit - 1, 1);
        }
        Check.sentence("The machine: push RIGHT(n,v) (it replaces the popped frame; no depth test)");
        for (int limit = 4; limit <= 32; limit++) {
            SafeClosures right = under(limit - 1, limit, "(- 9 v1)");
            Check.same("PRIM as the last frame of " + limit, right.run(), OK);
            Check.left("PRIM as the last frame of " + limit, right, INT, limit + 8, limit - 2, 1);
        }
    }

    private static void noFrameForLamAndLetrec() {
        Check.sentence("The machine: NUM, VAR, LAM and LETREC push no frame");
        for (int limit = 4; limit <= 32; limit++) {
            String[] texts = {"5", "(letrec v2 (lam v3 v3) 5)", "(letrec2 v2 (lam v3 v3) v4 (lam v3 v2) 5)"};
            for (String text : texts) {
                SafeClosures x = under(limit, limit, text);
                Check.same(text + " under " + limit + " frames", x.run(), OK);
                Check.same(text + " under " + limit + " frames: value", x.resultValue(), limit + 5);
            }
            Check.same("VAR under " + limit + " frames", under(limit, limit, "v1").run(), OK);
            Check.same("LAM under " + limit + " frames", under(limit, limit, "(lam v2 v2)").run(),
                SafeClosures.ERR_TYPE);
        }
    }

    private static void framesArePoppedFirst() {
        Check.sentence("What it is: a frame is popped before a called body, an IF branch or a LET body is evaluated");
        String less = "(- v1 1)";
        String[] loops = {
            "(letrec v0 (lam v1 (if v1 (app v0 " + less + ") 8)) (app v0 99))",
            "(letrec v0 (lam v1 (if (= v1 0) 8 (app v0 " + less + "))) (app v0 99))",
            "(letrec v0 (lam v1 (let v2 " + less + " (if v1 (app v0 v2) 8))) (app v0 99))",
            "(letrec v0 (lam v1 (letrec v2 (lam v3 v3) (if v1 (app v0 " + less + ") 8))) (app v0 99))",
            "(letrec2 v0 (lam v2 (if v2 (app v1 (- v2 1)) 8)) v1 (lam v2 (if v2 (app v0 (- v2 1)) 8)) (app v0 99))"};
        for (String loop : loops) {
            SafeClosures x = Source.object(100, 2, 4, loop);
            Check.same(loop, x.run(), OK);
            Check.same(loop + ": value", x.resultValue(), 8);
            Check.same(loop + ": calls", x.callsUsed(), 100);
        }
        for (int limit = 4; limit <= 32; limit++) {
            String[] texts = {"(app (lam v2 (+ v2 1)) 6)", "(if 1 (if 1 (+ 3 4) 0) 0)", "(if 0 0 (if 0 0 (+ 3 4)))",
                "(let v2 1 (let v2 6 (+ v2 1)))"};
            for (String text : texts) {
                SafeClosures x = under(limit - 1, limit, text);
                Check.same(text + " under " + (limit - 1) + " of " + limit, x.run(), OK);
                Check.same(text + " under " + (limit - 1) + ": value", x.resultValue(), limit + 6);
            }
        }
    }

    private static void environments() {
        Check.sentence("What it is: Variables are named by the ints 0..7");
        String all = "(+ v0 (+ v1 (+ v2 (+ v3 (+ v4 (+ v5 (+ v6 v7)))))))";
        Check.gives("(let v0 1 (let v1 2 (let v2 4 (let v3 8 (let v4 16 (let v5 32 (let v6 64 (let v7 128 " + all
            + "))))))))", 255, 0, 0);
        for (int x = 0; x < 8; x++) {
            String v = "v" + x;
            Check.gives("(let " + v + " 5 (let " + v + " (+ " + v + " 1) (* " + v + " 10)))", 60, 0, 0);
            Check.gives("(app (lam " + v + " (- " + v + " 1)) 5)", 4, 1, 1);
            Check.gives("(let " + v + " 5 (+ (let " + v + " 7 " + v + ") " + v + "))", 12, 0, 0);
            Check.gives("(let " + v + " 5 (+ (app (lam " + v + " " + v + ") 7) " + v + "))", 12, 1, 1);
            Check.gives("(let " + v + " 5 (if (let " + v + " 0 " + v + ") 1 " + v + "))", 5, 0, 0);
        }
        Check.sentence("What it is: C is its captured environment");
        SafeClosures captured = State.ran("(let v1 1 (let v2 2 (let v4 4 (let v7 7 (lam v0 (+ (* v1 v2) (* v4 (+ v7 "
            + "v0))))))))");
        Check.same("callResult(3)", captured.callResult(3), OK);
        Check.same("callResult(3): value", captured.resultValue(), 42);
        Check.gives("(let v0 2 (let v1 (lam v2 (* v0 v2)) (let v0 100 (app v1 v0))))", 200, 1, 1);
    }

    private static void framesKeepTheirEnvironment() {
        Check.sentence("The machine: EVAL(a,E), EVAL(r,E), EVAL(t,E), EVAL(e,E), EVAL(e2, E[x:=v]) in the frame's E");
        String inner = "(let v0 8 (let v7 9 (let v4 5 v4)))";
        String[] texts = {"(app (let v4 " + inner + " (lam v2 (+ v2 v4))) (+ v0 (* v4 v7)))",
            "(+ " + inner + " (+ v0 (* v4 v7)))", "(if " + inner + " (+ 5 (+ v0 (* v4 v7))) 0)",
            "(if (- 5 " + inner + ") 0 (+ 5 (+ v0 (* v4 v7))))", "(let v1 " + inner + " (+ v1 (+ v0 (* v4 v7))))",
            "(let v4 (+ v4 (- 5 " + inner + ")) (+ 5 (+ v0 (* v4 v7))))"};
        for (String text : texts) {
            String pending = text;
            for (int frames = 0; frames <= 3; frames++) {
                SafeClosures x = State.ran("(let v0 1 (let v4 2 (let v7 3 " + pending + ")))");
                Check.same(frames + " frames below " + text, x.resultKind(), INT);
                Check.same(frames + " frames below " + text, x.resultValue(), 12 + 100 * frames);
                pending = "(+ 100 " + pending + ")";
            }
        }
    }

    private static void letrecEnvironment() {
        Check.sentence("The machine, LETREC: The captured environment of each ci is E2 restricted to FV(li)");
        String one = "(lam v2 (if v2 (app v1 (- v2 1)) 10))";
        String two = "(lam v2 (if v2 (app v0 (- v2 1)) 20))";
        Check.gives("(letrec2 v0 " + one + " v1 " + two + " (app v0 3))", 20, 4, 2);
        Check.gives("(letrec2 v0 " + one + " v1 " + two + " (app v0 4))", 10, 5, 2);
        Check.gives("(letrec2 v1 " + two + " v0 " + one + " (app v0 3))", 20, 4, 2);
        // The names mean the new closures, whatever they meant outside, in each lambda and in the body.
        Check.gives("(let v0 8 (let v1 9 (letrec2 v0 " + one + " v1 " + two + " (app v1 1))))", 10, 2, 2);
        Check.gives("(let v0 (lam v1 0) (letrec v0 (lam v1 (if v1 (app v0 0) 4)) (app v0 1)))", 4, 2, 1);
        Check.gives("(letrec v0 (lam v0 v0) (app v0 8))", 8, 1, 1);
        Check.gives("(letrec2 v0 (lam v1 v1) v1 (lam v0 v0) (+ (app v0 8) (app v1 9)))", 17, 2, 2);
        Check.gives("(let v0 1 (+ (letrec v0 (lam v1 v1) (app v0 20)) v0))", 21, 1, 1);
    }

    private static void peakIs(String text, int peak) {
        SafeClosures x = State.items(text);
        for (int i = 0; i < 2; i++) {
            x.run();
            Check.same("peakLive() of " + text, x.peakLive(), peak);
        }
    }

    /** With v0 bound to a closure by a LET, and by a LETREC, which lets it go at once if the body has no use for it. */
    private static void peakWithin(String body, int peak) {
        peakIs("(let v0 (lam v1 v1) " + body + ")", peak);
        peakIs("(letrec v0 (lam v1 v1) " + body + ")", peak);
        peakIs("(app (lam v0 (app (lam v6 " + body + ") 1)) (lam v1 v1))", Math.max(peak, 2));
    }

    private static void rootsOfTheState() {
        Check.sentence("LIVE CHECK: state RETURN(c): c");
        peakIs("(lam v0 v0)", 1);
        peakIs("(let v0 (lam v1 v1) (lam v2 v2))", 1);
        peakIs("(app (lam v0 (lam v1 v1)) 3)", 1);
        peakIs("(app (lam v0 (let v2 v0 (lam v1 v1))) (lam v3 v3))", 2);
        Check.sentence("LIVE CHECK: state EVAL(b,E2): E2(y) for each y in FV(b)");
        peakIs("(letrec v0 (lam v1 v1) 5)", 0);
        peakIs("(letrec v0 (lam v1 (app v0 v1)) 5)", 0);
        peakIs("(letrec v0 (lam v1 v1) v0)", 1);
        peakIs("(letrec2 v0 (lam v1 v1) v2 (lam v1 v1) 5)", 0);
        peakIs("(letrec2 v0 (lam v1 v1) v2 (lam v1 v1) v0)", 1);
        peakIs("(letrec2 v0 (lam v1 v1) v2 (lam v1 v1) v2)", 1);
        peakIs("(letrec2 v0 (lam v1 v1) v2 (lam v1 v1) (if 1 v0 v2))", 2);
        peakIs("(let v0 (lam v1 v1) (letrec v2 (lam v1 v1) v2))", 1);
        peakIs("(letrec v0 (lam v1 v1) (letrec v2 (lam v1 v1) v2))", 1);
        peakIs("(letrec v0 (lam v1 v1) (letrec v2 (lam v1 v1) (if v0 v2 1)))", 2);
    }

    private static void rootsOfArgAndCall() {
        Check.sentence("LIVE CHECK: ARG(n,E): E(y) for each y in FV(a)");
        peakWithin("(app (lam v2 2) v0)", 2);
        peakWithin("(app (lam v2 2) (lam v3 v0))", 3);
        peakWithin("(app (lam v2 2) 3)", 1);
        // What the function alone mentioned is let go once it has been used.
        peakWithin("(app (let v5 v0 (lam v2 2)) 3)", 1);
        peakWithin("(app (let v5 v0 (lam v2 2)) v0)", 2);
        Check.sentence("LIVE CHECK: CALL(w): w");
        peakIs("(app (lam v0 1) (lam v1 1))", 2);
        peakIs("(app 1 (lam v1 1))", 1);
        peakWithin("(app v0 (lam v2 2))", 2);
        peakWithin("(app (app (lam v3 v3) 1) (let v5 v0 (lam v2 2)))", 2);
        // What the argument mentions is let go as it is used up.
        peakWithin("(app 1 (app (let v5 v0 (lam v3 3)) 1))", 1);
        peakWithin("(app (let v4 0 v4) (let v5 v0 (lam v2 2)))", 1);
    }

    private static void rootsOfLeftAndRight() {
        Check.sentence("LIVE CHECK: LEFT(n,E): E(y) for each y in FV(r)");
        peakWithin("(+ (app (lam v2 2) 3) (app v0 1))", 2);
        peakWithin("(+ (app (lam v2 2) 3) 1)", 1);
        peakWithin("(+ (app (let v5 v0 (lam v2 2)) 3) 1)", 1);
        Check.sentence("LIVE CHECK: RIGHT(n,u): u");
        peakIs("(+ (lam v0 0) (lam v1 1))", 2);
        peakWithin("(+ v0 (lam v2 2))", 2);
        peakWithin("(+ 1 (app (lam v2 2) 3))", 1);
        peakWithin("(+ (app v0 1) (app (lam v2 2) 3))", 1);
        peakWithin("(+ 1 (app (let v5 v0 (lam v2 2)) 3))", 1);
    }

    private static void rootsOfTest() {
        Check.sentence("LIVE CHECK: TEST(n,E): E(y) for each y in FV(t)+FV(e)");
        peakWithin("(if (app (lam v2 2) 3) v0 1)", 2);
        peakWithin("(if (app (lam v2 2) 3) 1 v0)", 2);
        peakWithin("(if (app (lam v2 0) 3) v0 1)", 2);
        peakWithin("(if (app (lam v2 0) 3) 1 v0)", 2);
        peakIs("(letrec2 v0 (lam v1 v1) v3 (lam v1 v1) (if (app (lam v2 2) 3) v0 v3))", 3);
        peakWithin("(if (app (lam v2 2) 3) 1 2)", 1);
        peakWithin("(if (app (let v5 v0 (lam v2 2)) 3) 1 2)", 1);
        // The branch not taken is let go.
        peakIs("(letrec2 v0 (lam v1 v1) v3 (lam v1 v1) (if 1 (lam v2 v0) v3))", 2);
        peakIs("(letrec2 v0 (lam v1 v1) v3 (lam v1 v1) (if 0 v0 (lam v2 v3)))", 2);
    }

    private static void rootsOfBind() {
        Check.sentence("LIVE CHECK: BIND(n,E): E(y) for each y in FV(e2)-{x}");
        peakWithin("(let v3 (lam v2 2) v0)", 2);
        peakWithin("(let v3 (lam v2 2) v3)", 1);
        peakWithin("(let v0 (lam v2 2) v0)", 1);
        peakWithin("(let v0 (app (lam v2 (lam v3 3)) 1) v0)", 1);
        peakWithin("(let v0 (let v5 v0 (app (lam v2 (lam v3 3)) 1)) v0)", 1);
        peakWithin("(let v3 (lam v2 2) (app v3 v0))", 2);
        peakWithin("(let v3 (let v5 v0 (lam v2 2)) v3)", 1);
        peakWithin("(let v3 (let v5 v0 (lam v2 2)) (app v3 v0))", 2);
    }

    private static void closuresReach() {
        Check.sentence("LIVE CHECK: A closure reaches every value that its captured environment binds, and through "
            + "those closures whatever they reach");
        peakIs("(letrec v0 (lam v1 v1) (lam v2 v0))", 2);
        peakIs("(let v0 (lam v1 v1) (let v2 (lam v1 v0) (let v3 (lam v1 v2) (lam v1 v3))))", 4);
        peakIs("(let v7 (lam v1 v1) (let v0 (lam v1 v1) (lam v2 (app v7 v0))))", 3);
        peakIs("(let v0 5 (let v3 6 (lam v2 (+ v0 v3))))", 1);
        Check.sentence("What it is: A closure keeps alive only the values of the variables free in its own lambda");
        peakIs("(let v0 (lam v1 v1) (lam v0 v0))", 1);
        peakIs("(letrec v0 (lam v1 v1) (let v2 (lam v1 1) (let v3 (lam v1 v2) (lam v1 v3))))", 3);
        peakIs("(letrec v0 (lam v1 (app v0 v1)) (lam v0 v0))", 1);
        Check.sentence("LIVE CHECK: the number of distinct closures reachable from the roots; a root closure counts "
            + "itself");
        peakIs("(let v0 (lam v1 v1) (let v2 v0 (let v3 v0 (lam v4 (if v0 v2 v3)))))", 2);
        peakIs("(let v0 (lam v1 v1) (let v2 (lam v1 v0) (let v3 (lam v1 v0) (lam v1 (app v2 v3)))))", 4);
        peakIs("(letrec v0 (lam v1 (app v0 v1)) v0)", 1);
        peakIs("(letrec2 v0 (lam v1 v2) v2 (lam v1 v0) v0)", 2);
        peakIs("(letrec2 v0 (lam v1 (app v0 v2)) v2 (lam v1 (app v2 v0)) (app (lam v3 v0) v2))", 3);
    }

    private static void closuresAreDistinct() {
        Check.sentence("What it is: Every creation of a closure makes a new, distinct closure");
        String make = "(lam v1 (lam v2 v2))";
        peakIs("(let v0 " + make + " (let v3 (app v0 1) (let v4 (app v0 1) (lam v5 (app v3 v4)))))", 3);
        peakIs("(letrec v0 " + make + " (let v3 (app v0 1) (app (app v0 1) v3)))", 2);
        String again = "(letrec v0 (lam v1 (if v1 (letrec v2 (lam v3 v3) (let v4 (app v0 0) (lam v5 (app v2 v4)))) "
            + "(letrec v2 (lam v3 v3) v2))) (app v0 1))";
        peakIs(again, 3);
    }

    private static void countedAtLamAndLetrec() {
        Check.sentence("What it is: counted once at every LAM evaluation and once at every LETREC evaluation (after "
            + "all its closures are made)");
        // Before v2 means the second closure it means two closures of its own.
        String outer = "(let v2 (let v3 (lam v1 1) (lam v1 v3)) ";
        peakIs(outer + "(letrec2 v0 (lam v1 v1) v2 (lam v1 v1) (if 1 v0 v2)))", 2);
        SafeClosures both = Source.object(100, 2, 4, outer + "(letrec2 v0 (lam v1 v1) v2 (lam v1 v1) (if 1 v0 v2)))");
        Check.same("two new closures in place of two", both.run(), OK);
        peakIs("(letrec2 v0 (lam v1 v2) v2 (lam v1 v1) v0)", 2);
        peakIs("(letrec2 v0 (lam v1 v1) v2 (lam v1 v0) v2)", 2);
        SafeClosures pair = Source.object(100, 2, 4, "(let v5 (lam v1 v1) (letrec2 v0 (lam v1 v2) v2 (lam v1 v5) v0))");
        Check.same("two closures at once above one", pair.run(), SafeClosures.ERR_MEMORY);
        Check.left("two closures at once above one", pair, NONE, 0, 0, 3);
    }

    private static void liveLimitEdge() {
        Check.sentence("LIVE CHECK: First, peakLive becomes the greater of itself and the live count. Then, if the "
            + "live count exceeds liveLimit: ERR_MEMORY");
        String loop = "(app (app (letrec v0 (lam v1 (lam v2 (if v1 (app (app v0 (- v1 1)) (lam v3 v2)) 5))) v0) ";
        for (int limit = 2; limit <= 32; limit++) {
            SafeClosures most = Source.object(100, limit, 32, loop + (limit - 2) + ") 7)");
            Check.same("as many as liveLimit " + limit, most.run(), OK);
            Check.left("as many as liveLimit " + limit, most, INT, 5, 2 * limit - 2, limit);
            SafeClosures over = Source.object(100, limit, 32, loop + (limit - 1) + ") 7)");
            for (int i = 0; i < 2; i++) {
                Check.same("one more than liveLimit " + limit, over.run(), SafeClosures.ERR_MEMORY);
                Check.same("one more than liveLimit " + limit + ": peakLive()", over.peakLive(), limit + 1);
                Check.same("one more than liveLimit " + limit + ": resultKind()", over.resultKind(), NONE);
            }
        }
        // The limit is on those that live at once, not on how many are made.
        SafeClosures many = Source.object(100, 2, 4,
            "(letrec v0 (lam v1 (if v1 (app v0 (app (lam v2 (- v2 1)) v1)) 6)) (app v0 49))");
        Check.same("fifty closures, two at a time", many.run(), OK);
        Check.left("fifty closures, two at a time", many, INT, 6, 99, 2);
    }

    private static void errorsEndAtOnce() {
        Check.sentence("The machine: An error ends the run at once");
        String[] errors = {"(+ 1 (lam v5 v5))", "(app 1 2)", "(if (lam v5 v5) 1 2)"};
        int[] statuses = {SafeClosures.ERR_TYPE, SafeClosures.ERR_NOT_FUNCTION, SafeClosures.ERR_TYPE};
        String one = "(app (lam v0 v0) 1)";
        String more = "(app (lam v0 (app v0 v0)) (lam v1 (let v2 (lam v3 v3) (lam v4 (app v1 v2)))))";
        for (int i = 0; i < errors.length; i++) {
            Check.fails("(let v6 " + one + " (+ " + errors[i] + " " + more + "))", statuses[i], 1, 1);
            Check.fails("(let v6 " + one + " (app " + errors[i] + " " + more + "))", statuses[i], 1, 1);
            Check.fails("(let v6 " + one + " (let v7 " + errors[i] + " " + more + "))", statuses[i], 1, 1);
            Check.fails("(let v6 " + one + " (if " + errors[i] + " " + more + " 1))", statuses[i], 1, 1);
        }
        Check.sentence("The machine: callsUsed and peakLive keep the values they hold at that moment");
        for (int i = 0; i < errors.length; i++) {
            Check.fails("(let v6 " + more + " " + errors[i] + ")", statuses[i], 2, 3);
            Check.fails("(let v6 " + more + " (app (lam v0 " + errors[i] + ") 1))", statuses[i], 3, 3);
        }
        Check.fails("(let v6 " + more + " " + LOOP + ")", SafeClosures.ERR_FUEL, 100, 3);
        Check.fails("(let v6 " + more + " (letrec v0 (lam v1 (+ (app v0 v1) 1)) (app v0 1)))", SafeClosures.ERR_DEPTH,
            34, 3);
        Check.fails("(let v6 " + more + " (letrec v0 (lam v1 (app v0 (lam v2 v1))) (app v0 1)))",
            SafeClosures.ERR_MEMORY, 34, 33);
    }
}
