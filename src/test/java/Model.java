import java.util.ArrayDeque;
import java.util.ArrayList;
import java.util.Arrays;
import java.util.Collections;
import java.util.Deque;
import java.util.HashMap;
import java.util.HashSet;
import java.util.IdentityHashMap;
import java.util.List;
import java.util.Map;
import java.util.Set;
import java.util.TreeSet;

/**
 * The document once more, in objects of the Java library and with nothing saved or reused: free variables are
 * found anew each time, environments are whole maps, and closures are never freed.
 */
final class Model {
    private enum Kind { NUM, VAR, LAM, APP, PRIM, IF, LET, LETREC }

    private enum Frame { ARG, CALL, LEFT, RIGHT, TEST, BIND }

    private static final class Node {
        final Kind kind;
        final int index;
        final int label;
        final int second;
        final List<Node> children;

        Node(Kind kind, int index, int label, int second, List<Node> children) {
            this.kind = kind;
            this.index = index;
            this.label = label;
            this.second = second;
            this.children = children;
        }

        Node child(int i) {
            return children.get(i);
        }

        Node body() {
            return children.get(children.size() - 1);
        }
    }

    private static final class Closure {
        final Node lam;
        final Map<Integer, Object> captured = new HashMap<>();

        Closure(Node lam) {
            this.lam = lam;
        }
    }

    private static final class Pending {
        final Frame kind;
        final Node node;
        final Map<Integer, Object> env;
        final Object value;

        Pending(Frame kind, Node node, Map<Integer, Object> env, Object value) {
            this.kind = kind;
            this.node = node;
            this.env = env;
            this.value = value;
        }
    }

    private final int fuel;
    private final int liveLimit;
    private final int depthLimit;
    private final List<Node> nodes = new ArrayList<>();
    private final List<Node> build = new ArrayList<>();
    private Object held;
    private int calls;
    private int peak;

    private Deque<Pending> frames;
    private Node evaluated;
    private Map<Integer, Object> env;
    private Object returned;
    private int status;

    Model(int fuel, int liveLimit, int depthLimit) {
        this.fuel = Math.min(100, Math.max(1, fuel));
        this.liveLimit = Math.min(32, Math.max(2, liveLimit));
        this.depthLimit = Math.min(32, Math.max(4, depthLimit));
    }

    private static boolean named(int x) {
        return 0 <= x && x <= 7;
    }

    private int make(Kind kind, int label, int second, int children) {
        if (build.size() < children || nodes.size() == 32) {
            return -1;
        }
        List<Node> top = build.subList(build.size() - children, build.size());
        Node made = new Node(kind, nodes.size(), label, second, new ArrayList<>(top));
        top.clear();
        nodes.add(made);
        build.add(made);
        return made.index;
    }

    /** Answers a call in the form of Calls: a method's number and two arguments. */
    int answer(int[] call) {
        int x = call[1];
        switch (call[0]) {
            case Calls.NUM: return make(Kind.NUM, x, -1, 0);
            case Calls.VAR: return named(x) ? make(Kind.VAR, x, -1, 0) : -1;
            case Calls.LAM: return named(x) ? make(Kind.LAM, x, -1, 1) : -1;
            case Calls.APP: return make(Kind.APP, 0, -1, 2);
            case Calls.PRIM: return 0 <= x && x <= 4 ? make(Kind.PRIM, x, -1, 2) : -1;
            case Calls.IF: return make(Kind.IF, 0, -1, 3);
            case Calls.LET: return named(x) ? make(Kind.LET, x, -1, 2) : -1;
            case Calls.LETREC: return makeLetrec(x, call[2]);
            case Calls.RUN: return run();
            case Calls.CALL_RESULT: return callResult(x);
            case Calls.CLEAR: return clear();
            case Calls.RESULT_KIND: return held == null ? 0 : held instanceof Integer ? 1 : 2;
            case Calls.RESULT_VALUE: return heldValue();
            case Calls.CALLS_USED: return calls;
            case Calls.PEAK_LIVE: return peak;
            default: return freeVars(x);
        }
    }

    private int makeLetrec(int x1, int x2) {
        int bindings = x2 == -1 ? 1 : 2;
        if (!named(x1) || (x2 != -1 && !named(x2)) || x1 == x2 || build.size() < bindings + 1) {
            return -1;
        }
        for (int i = 0; i < bindings; i++) {
            if (build.get(build.size() - 2 - i).kind != Kind.LAM) {
                return -1;
            }
        }
        return make(Kind.LETREC, x1, x2, bindings + 1);
    }

    private static Set<Integer> free(Node n) {
        Set<Integer> found = new TreeSet<>();
        switch (n.kind) {
            case VAR:
                found.add(n.label);
                return found;
            case LET:
                found.addAll(free(n.child(1)));
                found.remove(n.label);
                found.addAll(free(n.child(0)));
                return found;
            default:
                for (Node child : n.children) {
                    found.addAll(free(child));
                }
                if (n.kind == Kind.LAM || n.kind == Kind.LETREC) {
                    found.removeAll(Arrays.asList(n.label, n.second));
                }
                return found;
        }
    }

    private int freeVars(int node) {
        if (node < 0 || node >= nodes.size()) {
            return -1;
        }
        int mask = 0;
        for (int x : free(nodes.get(node))) {
            mask |= 1 << x;
        }
        return mask;
    }

    private int clear() {
        nodes.clear();
        build.clear();
        start();
        return 0;
    }

    private int heldValue() {
        if (held == null) {
            return 0;
        }
        return held instanceof Integer ? (Integer) held : ((Closure) held).lam.index;
    }

    private void start() {
        held = null;
        calls = 0;
        peak = 0;
        frames = new ArrayDeque<>();
        status = -2;
    }

    private int run() {
        if (build.size() != 1) {
            return -1;
        }
        start();
        if (!free(build.get(0)).isEmpty()) {
            return 1;
        }
        eval(build.get(0), new HashMap<>());
        return finish();
    }

    private int callResult(int k) {
        if (!(held instanceof Closure)) {
            return -1;
        }
        Closure closure = (Closure) held;
        start();
        call(closure, k);
        return finish();
    }

    private int finish() {
        while (status == -2) {
            if (evaluated != null) {
                evalStep(evaluated, env);
            } else {
                returnStep(returned);
            }
        }
        if (status == 0) {
            held = returned;
        }
        return status;
    }

    private void eval(Node n, Map<Integer, Object> in) {
        evaluated = n;
        env = in;
        returned = null;
    }

    private void give(Object v) {
        evaluated = null;
        env = null;
        returned = v;
    }

    private static Map<Integer, Object> with(Map<Integer, Object> in, int x, Object v) {
        Map<Integer, Object> out = new HashMap<>(in);
        out.put(x, v);
        return out;
    }

    private void evalStep(Node n, Map<Integer, Object> in) {
        switch (n.kind) {
            case NUM:
                give(n.label);
                break;
            case VAR:
                give(in.get(n.label));
                break;
            case LAM:
                give(capture(new Closure(n), in));
                checkLive();
                break;
            case LETREC:
                evalLetrec(n, in);
                checkLive();
                break;
            case APP:
                push(Frame.ARG, n, in);
                break;
            case PRIM:
                push(Frame.LEFT, n, in);
                break;
            case IF:
                push(Frame.TEST, n, in);
                break;
            default:
                push(Frame.BIND, n, in);
                break;
        }
    }

    private static Closure capture(Closure closure, Map<Integer, Object> in) {
        for (int x : free(closure.lam)) {
            closure.captured.put(x, in.get(x));
        }
        return closure;
    }

    private void evalLetrec(Node n, Map<Integer, Object> in) {
        Closure c1 = new Closure(n.child(0));
        Map<Integer, Object> inner = with(in, n.label, c1);
        if (n.second != -1) {
            Closure c2 = new Closure(n.child(1));
            inner.put(n.second, c2);
            capture(c2, inner);
        }
        capture(c1, inner);
        eval(n.body(), inner);
    }

    private void push(Frame kind, Node n, Map<Integer, Object> in) {
        if (frames.size() == depthLimit) {
            status = 5;
            return;
        }
        frames.push(new Pending(kind, n, in, null));
        eval(n.child(0), in);
    }

    private void returnStep(Object v) {
        if (frames.isEmpty()) {
            status = 0;
            return;
        }
        Pending top = frames.pop();
        Node n = top.node;
        switch (top.kind) {
            case ARG:
                frames.push(new Pending(Frame.CALL, n, null, v));
                eval(n.child(1), top.env);
                break;
            case CALL:
                if (top.value instanceof Closure) {
                    call((Closure) top.value, v);
                } else {
                    status = 3;
                }
                break;
            case LEFT:
                frames.push(new Pending(Frame.RIGHT, n, null, v));
                eval(n.child(1), top.env);
                break;
            case RIGHT:
                if (top.value instanceof Integer && v instanceof Integer) {
                    give(operate(n.label, (Integer) top.value, (Integer) v));
                } else {
                    status = 2;
                }
                break;
            case TEST:
                if (v instanceof Integer) {
                    eval(n.child((Integer) v != 0 ? 1 : 2), top.env);
                } else {
                    status = 2;
                }
                break;
            default:
                eval(n.child(1), with(top.env, n.label, v));
                break;
        }
    }

    private static int operate(int op, int u, int v) {
        int[] answers = {u + v, u - v, u * v, u < v ? 1 : 0, u == v ? 1 : 0};
        return answers[op];
    }

    private void call(Closure closure, Object v) {
        if (calls == fuel) {
            status = 4;
            return;
        }
        calls++;
        eval(closure.lam.child(0), with(closure.captured, closure.lam.label, v));
    }

    private static void root(List<Object> roots, Map<Integer, Object> in, Set<Integer> names) {
        for (int x : names) {
            roots.add(in.get(x));
        }
    }

    private void checkLive() {
        List<Object> roots = new ArrayList<>();
        if (evaluated != null) {
            root(roots, env, free(evaluated));
        } else {
            roots.add(returned);
        }
        for (Pending frame : frames) {
            if (frame.env == null) {
                roots.add(frame.value);
                continue;
            }
            Set<Integer> names = new HashSet<>(free(frame.node.child(1)));
            if (frame.kind == Frame.TEST) {
                names.addAll(free(frame.node.child(2)));
            }
            if (frame.kind == Frame.BIND) {
                names.remove(frame.node.label);
            }
            root(roots, frame.env, names);
        }
        int live = countReached(new ArrayDeque<>(roots));
        peak = Math.max(peak, live);
        if (live > liveLimit) {
            status = 6;
        }
    }

    private static int countReached(Deque<Object> open) {
        Set<Object> reached = Collections.newSetFromMap(new IdentityHashMap<>());
        while (!open.isEmpty()) {
            Object next = open.pop();
            if (next instanceof Closure && reached.add(next)) {
                open.addAll(((Closure) next).captured.values());
            }
        }
        return reached.size();
    }
}
