/** Objects in the states that the tests of the edges start from. */
final class State {
    /** Leaves a closure, with callsUsed 1 and peakLive 2. */
    static final String CLOSURE = "(app (lam v0 v0) (lam v1 (- v1 1)))";
    /** Leaves the int 3, with callsUsed 2 and peakLive 2. */
    static final String INT = "(app (lam v0 (app v0 4)) (lam v1 (- v1 1)))";
    /** Leaves nothing but an error, with callsUsed 1 and peakLive 2. */
    static final String ERROR = "(+ 1 (app (lam v0 v0) (lam v1 v1)))";
    static final String LAMBDA = "(lam v0 (lam v1 (- v0 v1)))";

    private State() {
    }

    static SafeClosures items(String... texts) {
        SafeClosures made = new SafeClosures(100, 32, 32);
        pushAll(made, 0, texts);
        return made;
    }

    /** Runs the first item's program before the others are pushed. */
    static SafeClosures ran(String... texts) {
        SafeClosures made = items(texts[0]);
        made.run();
        pushAll(made, 1, texts);
        return made;
    }

    static SafeClosures cleared(String... texts) {
        SafeClosures made = ran(CLOSURE, "1", "2", "3");
        made.clear();
        pushAll(made, 0, texts);
        return made;
    }

    /** Wraps the top item in lambdas until there are so many nodes. */
    static SafeClosures grown(SafeClosures made, int nodes) {
        for (int count = nodeCount(made); count < nodes; count++) {
            made.pushLam(0);
        }
        return made;
    }

    static int nodeCount(SafeClosures x) {
        int count = 0;
        while (x.freeVars(count) != SafeClosures.REFUSED) {
            count++;
        }
        return count;
    }

    /** Uses the items up, two into one, to count them; needs at least one item and nodes to spare. */
    static int countItems(SafeClosures x) {
        int count = 1;
        while (x.pushPrim(SafeClosures.OP_ADD) != SafeClosures.REFUSED) {
            count++;
        }
        return count;
    }

    private static void pushAll(SafeClosures made, int from, String... texts) {
        for (int i = from; i < texts.length; i++) {
            Source.push(made, texts[i]);
        }
    }
}
