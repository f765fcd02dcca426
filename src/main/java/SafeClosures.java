/** A small call-by-value lambda language, run under limits on calls, pending frames and live closures. */
public final class SafeClosures {
    public static final int REFUSED = -1;
    public static final int OK = 0;
    public static final int ERR_UNBOUND = 1;
    public static final int ERR_TYPE = 2;
    public static final int ERR_NOT_FUNCTION = 3;
    public static final int ERR_FUEL = 4;
    public static final int ERR_DEPTH = 5;
    public static final int ERR_MEMORY = 6;
    public static final int KIND_NONE = 0;
    public static final int KIND_INT = 1;
    public static final int KIND_CLOSURE = 2;
    public static final int OP_ADD = 0;
    public static final int OP_SUB = 1;
    public static final int OP_MUL = 2;
    public static final int OP_LT = 3;
    public static final int OP_EQ = 4;
    public static final int NO_SECOND = -1;
    public static final int MAX_NODES = 32;
    public static final int NUM_VARS = 8;
    public static final int FUEL_MIN = 1;
    public static final int FUEL_MAX = 100;
    public static final int LIVE_MIN = 2;
    public static final int LIVE_MAX = 32;
    public static final int DEPTH_MIN = 4;
    public static final int DEPTH_MAX = 32;

    private static final int NODE_NUM = 0;
    private static final int NODE_VAR = 1;
    private static final int NODE_LAM = 2;
    private static final int NODE_APP = 3;
    private static final int NODE_PRIM = 4;
    private static final int NODE_IF = 5;
    private static final int NODE_LET = 6;
    private static final int NODE_LETREC_ONE = 7;
    private static final int NODE_LETREC_TWO = 8;

    private static final int FRAME_ARG = 0;
    private static final int FRAME_CALL = 1;
    private static final int FRAME_LEFT = 2;
    private static final int FRAME_RIGHT = 3;
    private static final int FRAME_TEST = 4;
    private static final int FRAME_BIND = 5;

    /** The status of a machine that has not ended; no method answers it. */
    private static final int RUNNING = -2;

    // One body is at most MAX_NODES evaluations with two returns each, and at most FUEL_MAX + 1
    // bodies are evaluated: a run needs fewer than 10,000 steps.
    private static final int MAX_STEPS = 1000000;

    // A live check leaves at most LIVE_MAX slots in use, and at most two closures are made before the next.
    private static final int SLOTS = LIVE_MAX + 2;
    private static final int SLOT_VALUES = SLOTS * NUM_VARS;
    private static final int FRAME_VALUES = DEPTH_MAX * NUM_VARS;

    private final int fuel;
    private final int liveLimit;
    private final int depthLimit;

    // The program. A node's label is its constant, variable or operator; its children stand as written.
    private int nodeCount;
    private final int[] nodeKind = new int[MAX_NODES];
    private final int[] nodeLabel = new int[MAX_NODES];
    private final int[] nodeSecondVar = new int[MAX_NODES];
    private final int[] nodeChild1 = new int[MAX_NODES];
    private final int[] nodeChild2 = new int[MAX_NODES];
    private final int[] nodeChild3 = new int[MAX_NODES];
    private final int[] nodeFree = new int[MAX_NODES];
    private int stackSize;
    private final int[] stack = new int[MAX_NODES];

    // What the last run or callResult left. A held closure is held as its slot.
    private int heldKind;
    private int heldValue;
    private int calls;
    private int peak;

    // The machine's state: EVAL(current, env) or RETURN(value). A value is an int or a closure's slot.
    // A mask of closures has bit i set where value i of its row is a slot. What env holds for a variable
    // that the work ahead does not mention may be a slot taken anew since, so nothing saves or reaches it
    // without masking by free variables.
    private int status;
    private boolean evaluating;
    private int current;
    private final int[] env = new int[NUM_VARS];
    private int envClosures;
    private int value;
    private boolean valueIsClosure;

    // Frames. ARG, LEFT, TEST and BIND hold an environment; CALL and RIGHT hold one value, at place 0.
    private int depth;
    private final int[] frameKind = new int[DEPTH_MAX];
    private final int[] frameNode = new int[DEPTH_MAX];
    private final int[] frameValues = new int[FRAME_VALUES];
    private final int[] frameClosures = new int[DEPTH_MAX];

    // Closures. A slot that a live check does not reach is free to be taken again.
    private final boolean[] slotInUse = new boolean[SLOTS];
    private final int[] slotLam = new int[SLOTS];
    private final int[] slotValues = new int[SLOT_VALUES];
    private final int[] slotClosures = new int[SLOTS];
    private int reachedCount;
    private final int[] reachedSlots = new int[SLOTS];

    public SafeClosures(int fuel, int liveLimit, int depthLimit) {
        this.fuel = clamp(fuel, FUEL_MIN, FUEL_MAX);
        this.liveLimit = clamp(liveLimit, LIVE_MIN, LIVE_MAX);
        this.depthLimit = clamp(depthLimit, DEPTH_MIN, DEPTH_MAX);
    }

    public int pushNum(int k) {
        if (!canMake(0)) {
            return REFUSED;
        }
        return makeNode(NODE_NUM, k, NO_SECOND, 0, 0);
    }

    public int pushVar(int x) {
        if (!isVariable(x) || !canMake(0)) {
            return REFUSED;
        }
        return makeNode(NODE_VAR, x, NO_SECOND, 0, 1 << x);
    }

    public int pushLam(int x) {
        if (!isVariable(x) || !canMake(1)) {
            return REFUSED;
        }
        int free = freeAt(0) & ~(1 << x);
        return makeNode(NODE_LAM, x, NO_SECOND, 1, free);
    }

    public int pushApp() {
        if (!canMake(2)) {
            return REFUSED;
        }
        int free = freeAt(1) | freeAt(0);
        return makeNode(NODE_APP, 0, NO_SECOND, 2, free);
    }

    public int pushPrim(int op) {
        if (op < OP_ADD || op > OP_EQ || !canMake(2)) {
            return REFUSED;
        }
        int free = freeAt(1) | freeAt(0);
        return makeNode(NODE_PRIM, op, NO_SECOND, 2, free);
    }

    public int pushIf() {
        if (!canMake(3)) {
            return REFUSED;
        }
        int free = freeAt(2) | freeAt(1) | freeAt(0);
        return makeNode(NODE_IF, 0, NO_SECOND, 3, free);
    }

    public int pushLet(int x) {
        if (!isVariable(x) || !canMake(2)) {
            return REFUSED;
        }
        int free = freeAt(1) | (freeAt(0) & ~(1 << x));
        return makeNode(NODE_LET, x, NO_SECOND, 2, free);
    }

    public int pushLetrec(int x1, int x2) {
        if (!isVariable(x1)) {
            return REFUSED;
        }
        if (x2 == NO_SECOND) {
            return pushLetrecOne(x1);
        }
        if (!isVariable(x2) || x2 == x1) {
            return REFUSED;
        }
        return pushLetrecTwo(x1, x2);
    }

    public int run() {
        if (stackSize != 1) {
            return REFUSED;
        }
        startMachine();
        int root = stack[0];
        if (nodeFree[root] != 0) {
            return ERR_UNBOUND;
        }
        freeAllSlots();
        envClosures = 0;
        evaluate(root);
        return finishMachine();
    }

    public int callResult(int k) {
        if (heldKind != KIND_CLOSURE) {
            return REFUSED;
        }
        int slot = heldValue;
        startMachine();
        giveInt(k);
        callStep(slot);
        return finishMachine();
    }

    public void clear() {
        nodeCount = 0;
        stackSize = 0;
        forgetLastRun();
    }

    public int resultKind() {
        return heldKind;
    }

    public int resultValue() {
        if (heldKind == KIND_CLOSURE) {
            return slotLam[heldValue];
        }
        return heldValue;
    }

    public int callsUsed() {
        return calls;
    }

    public int peakLive() {
        return peak;
    }

    public int freeVars(int node) {
        if (node < 0 || node >= nodeCount) {
            return REFUSED;
        }
        return nodeFree[node];
    }

    private static int clamp(int wanted, int least, int greatest) {
        if (wanted < least) {
            return least;
        }
        return wanted > greatest ? greatest : wanted;
    }

    private static boolean isVariable(int x) {
        return x >= 0 && x < NUM_VARS;
    }

    private boolean canMake(int children) {
        return stackSize >= children && nodeCount < MAX_NODES;
    }

    /** The free variables of the node that lies so many places below the stack's top. */
    private int freeAt(int below) {
        return nodeFree[stack[stackSize - 1 - below]];
    }

    private boolean isLamAt(int below) {
        return nodeKind[stack[stackSize - 1 - below]] == NODE_LAM;
    }

    private int pushLetrecOne(int x1) {
        if (!canMake(2) || !isLamAt(1)) {
            return REFUSED;
        }
        int free = (freeAt(1) | freeAt(0)) & ~(1 << x1);
        return makeNode(NODE_LETREC_ONE, x1, NO_SECOND, 2, free);
    }

    private int pushLetrecTwo(int x1, int x2) {
        if (!canMake(3) || !isLamAt(2) || !isLamAt(1)) {
            return REFUSED;
        }
        int free = (freeAt(2) | freeAt(1) | freeAt(0)) & ~(1 << x1) & ~(1 << x2);
        return makeNode(NODE_LETREC_TWO, x1, x2, 3, free);
    }

    private int makeNode(int kind, int label, int secondVar, int children, int free) {
        int made = nodeCount;
        int base = stackSize - children;
        nodeCount = made + 1;
        nodeKind[made] = kind;
        nodeLabel[made] = label;
        nodeSecondVar[made] = secondVar;
        nodeFree[made] = free;
        nodeChild1[made] = children > 0 ? stack[base] : 0;
        nodeChild2[made] = children > 1 ? stack[base + 1] : 0;
        nodeChild3[made] = children > 2 ? stack[base + 2] : 0;
        stack[base] = made;
        stackSize = base + 1;
        return made;
    }

    private void forgetLastRun() {
        heldKind = KIND_NONE;
        heldValue = 0;
        calls = 0;
        peak = 0;
    }

    private void startMachine() {
        forgetLastRun();
        depth = 0;
        status = RUNNING;
    }

    private int finishMachine() {
        for (int step = 0; step < MAX_STEPS && status == RUNNING; step++) {
            if (evaluating) {
                evalStep();
            } else {
                returnStep();
            }
        }
        if (status == OK) {
            heldKind = valueIsClosure ? KIND_CLOSURE : KIND_INT;
            heldValue = value;
        }
        return status;
    }

    private void evaluate(int next) {
        evaluating = true;
        current = next;
    }

    private void giveInt(int k) {
        evaluating = false;
        value = k;
        valueIsClosure = false;
    }

    private void giveClosure(int slot) {
        evaluating = false;
        value = slot;
        valueIsClosure = true;
    }

    private void evalStep() {
        int n = current;
        switch (nodeKind[n]) {
            case NODE_NUM:
                giveInt(nodeLabel[n]);
                break;
            case NODE_VAR:
                evalVar(nodeLabel[n]);
                break;
            case NODE_LAM:
                evalLam(n);
                checkLive();
                break;
            case NODE_APP:
                evalFirstChild(n, FRAME_ARG, nodeFree[nodeChild2[n]]);
                break;
            case NODE_PRIM:
                evalFirstChild(n, FRAME_LEFT, nodeFree[nodeChild2[n]]);
                break;
            case NODE_IF:
                evalFirstChild(n, FRAME_TEST, nodeFree[nodeChild2[n]] | nodeFree[nodeChild3[n]]);
                break;
            case NODE_LET:
                evalFirstChild(n, FRAME_BIND, nodeFree[nodeChild2[n]] & ~(1 << nodeLabel[n]));
                break;
            case NODE_LETREC_ONE:
                evalLetrecOne(n);
                checkLive();
                break;
            default:
                evalLetrecTwo(n);
                checkLive();
                break;
        }
    }

    private void evalVar(int x) {
        if ((envClosures >> x & 1) != 0) {
            giveClosure(env[x]);
        } else {
            giveInt(env[x]);
        }
    }

    private void evalLam(int n) {
        int slot = takeSlot();
        makeClosure(slot, n);
        giveClosure(slot);
    }

    private void evalLetrecOne(int n) {
        int slot = takeSlot();
        bind(nodeLabel[n], slot, true);
        makeClosure(slot, nodeChild1[n]);
        evaluate(nodeChild2[n]);
    }

    private void evalLetrecTwo(int n) {
        int slot1 = takeSlot();
        int slot2 = takeSlot();
        // Both names are bound before either closure is made, for each may capture both.
        bind(nodeLabel[n], slot1, true);
        bind(nodeSecondVar[n], slot2, true);
        makeClosure(slot1, nodeChild1[n]);
        makeClosure(slot2, nodeChild2[n]);
        evaluate(nodeChild3[n]);
    }

    /** Pushes a frame that keeps the variables of the mask, for the work left when the child has its value. */
    private void evalFirstChild(int n, int kind, int needed) {
        if (depth >= depthLimit) {
            status = ERR_DEPTH;
            return;
        }
        frameKind[depth] = kind;
        frameNode[depth] = n;
        saveEnv(frameValues, depth * NUM_VARS);
        frameClosures[depth] = envClosures & needed;
        depth++;
        evaluate(nodeChild1[n]);
    }

    private void returnStep() {
        if (depth <= 0) {
            status = OK;
            return;
        }
        depth--;
        int n = frameNode[depth];
        switch (frameKind[depth]) {
            case FRAME_ARG:
                evalSecondChild(n, FRAME_CALL);
                break;
            case FRAME_CALL:
                returnToCall();
                break;
            case FRAME_LEFT:
                evalSecondChild(n, FRAME_RIGHT);
                break;
            case FRAME_RIGHT:
                returnToRight(nodeLabel[n]);
                break;
            case FRAME_TEST:
                returnToTest(n);
                break;
            default:
                loadEnv(frameValues, depth * NUM_VARS, frameClosures[depth]);
                bind(nodeLabel[n], value, valueIsClosure);
                evaluate(nodeChild2[n]);
                break;
        }
    }

    /** Puts a frame that holds the value in the popped frame's place, so no depth test is due. */
    private void evalSecondChild(int n, int kind) {
        int base = depth * NUM_VARS;
        loadEnv(frameValues, base, frameClosures[depth]);
        frameKind[depth] = kind;
        frameValues[base] = value;
        frameClosures[depth] = valueIsClosure ? 1 : 0;
        depth++;
        evaluate(nodeChild2[n]);
    }

    private void returnToCall() {
        if (frameClosures[depth] == 0) {
            status = ERR_NOT_FUNCTION;
            return;
        }
        callStep(frameValues[depth * NUM_VARS]);
    }

    private void callStep(int slot) {
        if (calls >= fuel) {
            status = ERR_FUEL;
            return;
        }
        calls++;
        int lam = slotLam[slot];
        loadEnv(slotValues, slot * NUM_VARS, slotClosures[slot]);
        bind(nodeLabel[lam], value, valueIsClosure);
        evaluate(nodeChild1[lam]);
    }

    private void returnToRight(int op) {
        if (frameClosures[depth] != 0 || valueIsClosure) {
            status = ERR_TYPE;
            return;
        }
        int answer = operate(op, frameValues[depth * NUM_VARS], value);
        giveInt(answer);
    }

    private static int operate(int op, int left, int right) {
        switch (op) {
            case OP_ADD:
                return left + right;
            case OP_SUB:
                return left - right;
            case OP_MUL:
                return left * right;
            case OP_LT:
                return left < right ? 1 : 0;
            default:
                return left == right ? 1 : 0;
        }
    }

    private void returnToTest(int n) {
        if (valueIsClosure) {
            status = ERR_TYPE;
            return;
        }
        loadEnv(frameValues, depth * NUM_VARS, frameClosures[depth]);
        evaluate(value != 0 ? nodeChild2[n] : nodeChild3[n]);
    }

    private void bind(int x, int bound, boolean isClosure) {
        int bit = 1 << x;
        env[x] = bound;
        envClosures = isClosure ? envClosures | bit : envClosures & ~bit;
    }

    private void saveEnv(int[] rows, int base) {
        for (int x = 0; x < NUM_VARS; x++) {
            rows[base + x] = env[x];
        }
    }

    private void loadEnv(int[] rows, int base, int closures) {
        for (int x = 0; x < NUM_VARS; x++) {
            env[x] = rows[base + x];
        }
        envClosures = closures;
    }

    private void freeAllSlots() {
        for (int slot = 0; slot < SLOTS; slot++) {
            slotInUse[slot] = false;
        }
    }

    private int takeSlot() {
        int slot = 0;
        while (slot < SLOTS - 1 && slotInUse[slot]) {
            slot++;
        }
        slotInUse[slot] = true;
        return slot;
    }

    private void makeClosure(int slot, int lam) {
        slotLam[slot] = lam;
        saveEnv(slotValues, slot * NUM_VARS);
        slotClosures[slot] = envClosures & nodeFree[lam];
    }

    private void checkLive() {
        freeAllSlots();
        reachedCount = 0;
        if (evaluating) {
            reachRow(env, 0, envClosures & nodeFree[current]);
        } else {
            reach(value);
        }
        for (int frame = 0; frame < depth; frame++) {
            reachRow(frameValues, frame * NUM_VARS, frameClosures[frame]);
        }
        // Reaching grows the list that this loop walks, but never beyond one entry for each slot.
        for (int next = 0; next < SLOTS && next < reachedCount; next++) {
            int slot = reachedSlots[next];
            reachRow(slotValues, slot * NUM_VARS, slotClosures[slot]);
        }
        if (reachedCount > peak) {
            peak = reachedCount;
        }
        if (reachedCount > liveLimit) {
            status = ERR_MEMORY;
        }
    }

    private void reachRow(int[] rows, int base, int closures) {
        for (int i = 0; i < NUM_VARS; i++) {
            if ((closures >> i & 1) != 0) {
                reach(rows[base + i]);
            }
        }
    }

    private void reach(int slot) {
        if (slotInUse[slot]) {
            return;
        }
        slotInUse[slot] = true;
        reachedSlots[reachedCount] = slot;
        reachedCount++;
    }
}
