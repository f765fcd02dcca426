import java.util.ArrayList;
import java.util.List;

/** The promises and the limits rule on objects that are given many thousands of calls. */
public final class LongTest {
    private static final int OK = SafeClosures.OK;
    private static final int[] RUN = {Calls.RUN, 0, 0};

    /** Called with 1 it puts a closure on a chain, with 0 it takes the last one off; the chain's end stays. */
    private static final String CHAIN = "(letrec v5 (lam v3 v5) (app (letrec v0 (lam v1 (lam v2 "
        + "(if v2 (app v0 (lam v3 v1)) (app v0 (app v1 0))))) v0) v5))";
    /** Each call keeps one closure of a new pair and lets the one before it go, or keeps the pair. */
    private static final String PAIRS = "(letrec v0 (lam v1 (lam v2 (letrec2 v3 (lam v4 v5) v5 (lam v4 (if v4 v3 6)) "
        + "(app v0 (if v2 (if (= v2 1) v3 v5) v1))))) (app v0 7))";
    /** Called with 1 it grows a closure around the one before it, else it starts over from the int. */
    private static final String SHELLS = "(letrec v0 (lam v1 (lam v2 (let v4 (lam v3 v1) (if (= v2 1) (app v0 v4) "
        + "(app v0 v2))))) (app v0 7))";

    public static void main(String[] args) {
        chainOfKnownLength();
        callsOfOneProgram();
        manyPrograms();
        higherLimits();
        Check.end();
    }

    /** Live at the peak are the new chain, its end, the closure that will be held, and the function that makes it. */
    private static void chainOfKnownLength() {
        Check.sentence("What it is, a long run: The number of closures reachable in this sense is counted");
        Calls choice = new Calls(1);
        SafeClosures x = Source.object(3, 12, 5, CHAIN);
        Check.same("a chain: run()", x.run(), OK);
        int length = 0;
        for (int i = 0; i < 100000; i++) {
            int k = choice.below(2);
            if (length == 9 && k == 1) {
                Check.same("a chain too long", x.callResult(1), SafeClosures.ERR_MEMORY);
                Check.left("a chain too long", x, SafeClosures.KIND_NONE, 0, 2, 13);
                x.run();
                length = 0;
            }
            Check.same("a chain of " + length + ": callResult(" + k + ")", x.callResult(k), OK);
            length = k == 1 ? length + 1 : Math.max(0, length - 1);
            Check.left("a chain of " + length, x, SafeClosures.KIND_CLOSURE, 13, 2 + (1 - k), length + 3);
        }
    }

    private static void compare(String what, SafeClosures x, Model model, int[] call) {
        Check.same(what + ": " + Calls.name(call), Calls.give(x, call), model.answer(call));
    }

    private static void compareLeft(String what, SafeClosures x, Model model) {
        for (int method = Calls.RESULT_KIND; method <= Calls.PEAK_LIVE; method++) {
            compare(what, x, model, new int[] {method, 0, 0});
        }
    }

    private static void callsOfOneProgram() {
        Check.sentence("Promises 10 to 15, many calls of one program");
        for (String text : new String[] {CHAIN, PAIRS, SHELLS}) {
            for (int live : new int[] {2, 3, 4, 5, 8, 32}) {
                SafeClosures x = Source.object(4, live, 6, text);
                Model model = new Model(4, live, 6);
                Source.pushes(text).forEach(model::answer);
                Calls choice = new Calls(live);
                for (int i = 0; i < 5000; i++) {
                    if (x.resultKind() != SafeClosures.KIND_CLOSURE || choice.below(200) == 0) {
                        compare(text, x, model, RUN);
                        compareLeft(text, x, model);
                    }
                    compare(text, x, model, new int[] {Calls.CALL_RESULT, choice.below(3), 0});
                    compareLeft(text, x, model);
                }
            }
        }
    }

    private static void manyPrograms() {
        Check.sentence("Promises 2 to 16, many programs on one object");
        int[][] limits = {{100, 32, 32}, {20, 4, 8}, {5, 2, 4}};
        for (int[] limit : limits) {
            SafeClosures x = new SafeClosures(limit[0], limit[1], limit[2]);
            Model model = new Model(limit[0], limit[1], limit[2]);
            for (int[] call : new Calls(limit[0]).programs(5000).made) {
                compare("fuel " + limit[0], x, model, call);
            }
        }
    }

    /** A long run of calls of which the limits cut none short. */
    private static List<int[]> uncut(int[] limit, int programs) {
        List<int[]> calls = new ArrayList<>();
        for (int seed = 0; seed < programs; seed++) {
            Model model = new Model(limit[0], limit[1], limit[2]);
            List<int[]> made = new Calls(seed).programs(1).made;
            boolean cut = false;
            for (int[] call : made) {
                int answer = model.answer(call);
                cut |= Calls.isCutShort(call, answer);
            }
            if (!cut) {
                calls.addAll(made);
            }
        }
        return calls;
    }

    private static void higherLimits() {
        Check.sentence("What it is, a long run: raising the limits never changes the answer");
        int[][] limits = {{1, 2, 4}, {6, 3, 5}, {30, 6, 12}};
        int[][] higher = {{100, 0, 0}, {0, 32, 0}, {0, 0, 32}, {1, 1, 1}, {100, 32, 32}};
        for (int[] limit : limits) {
            List<int[]> calls = uncut(limit, 3000);
            Check.holds("too short a run: " + calls.size(), calls.size() > 30000);
            SafeClosures low = new SafeClosures(limit[0], limit[1], limit[2]);
            int[] due = calls.stream().mapToInt(call -> Calls.give(low, call)).toArray();
            for (int[] more : higher) {
                SafeClosures high = new SafeClosures(limit[0] + more[0], limit[1] + more[1], limit[2] + more[2]);
                for (int i = 0; i < due.length; i++) {
                    Check.holds("cut short: " + Calls.name(calls.get(i)), !Calls.isCutShort(calls.get(i), due[i]));
                    Check.same("higher limits: " + Calls.name(calls.get(i)), Calls.give(high, calls.get(i)), due[i]);
                }
            }
        }
    }
}
