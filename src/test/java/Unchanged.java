import java.util.function.Supplier;
import java.util.function.ToIntFunction;

/** Tests that a call changes nothing: whatever is called after it answers as if it had not been made. */
final class Unchanged {
    private static final int[][] RUN = {{Calls.RUN, 0, 0}, {Calls.CALL_RESULT, 3, 0}, {Calls.CALL_RESULT, -7, 0}};
    private static final int[][][] LATER = {
        {},
        {{Calls.CALL_RESULT, 5, 0}, {Calls.CALL_RESULT, 2, 0}},
        {{Calls.NUM, 11, 0}},
        {{Calls.NUM, 11, 0}, {Calls.APP, 0, 0}},
        {{Calls.VAR, 0, 0}, {Calls.LAM, 0, 0}},
        {{Calls.LAM, 1, 0}},
        {{Calls.APP, 0, 0}},
        {{Calls.APP, 0, 0}, {Calls.APP, 0, 0}},
        {{Calls.PRIM, SafeClosures.OP_SUB, 0}},
        {{Calls.PRIM, SafeClosures.OP_SUB, 0}, {Calls.PRIM, SafeClosures.OP_SUB, 0}},
        {{Calls.IF, 0, 0}},
        {{Calls.LET, 0, 0}},
        {{Calls.LETREC, 0, SafeClosures.NO_SECOND}},
        {{Calls.LETREC, 0, 1}},
        {{Calls.CLEAR, 0, 0}, {Calls.NUM, 9, 0}},
        {{Calls.CLEAR, 0, 0}, {Calls.VAR, 0, 0}, {Calls.LAM, 0, 0}},
    };

    private Unchanged() {
    }

    /** Holds a call to its due answer in a state that the supplier makes anew each time. */
    static void by(String what, Supplier<SafeClosures> state, ToIntFunction<SafeClosures> call, int due) {
        for (int[][] later : LATER) {
            SafeClosures called = state.get();
            SafeClosures spared = state.get();
            Check.same(what, call.applyAsInt(called), due);
            compareAnswers(what, called, spared);
            give(what, called, spared, later);
            give(what, called, spared, RUN);
        }
    }

    private static void give(String what, SafeClosures called, SafeClosures spared, int[][] calls) {
        for (int[] next : calls) {
            Check.same(what + ", then " + Calls.name(next), Calls.give(called, next), Calls.give(spared, next));
            compareAnswers(what + ", then " + Calls.name(next), called, spared);
        }
    }

    private static void compareAnswers(String what, SafeClosures called, SafeClosures spared) {
        Check.left(what, called, spared.resultKind(), spared.resultValue(), spared.callsUsed(), spared.peakLive());
        for (int node = -1; node <= SafeClosures.MAX_NODES; node++) {
            Check.same(what + ": freeVars(" + node + ")", called.freeVars(node), spared.freeVars(node));
        }
    }
}
