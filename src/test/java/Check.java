/** Counts the answers that are not as due, and ends the test with exit code 1 if there was one. */
final class Check {
    private static final int SHOWN = 20;
    private static final long MOST_MILLISECONDS = 300000;
    private static int made = 0;
    private static int wrong = 0;
    private static volatile String sentence = "";

    static {
        // A call that does not end must fail the test, not hold it up for ever.
        Thread watch = new Thread(Check::failWhenLate);
        watch.setDaemon(true);
        watch.start();
    }

    private Check() {
    }

    private static void failWhenLate() {
        try {
            Thread.sleep(MOST_MILLISECONDS);
        } catch (InterruptedException e) {
            return;
        }
        System.out.println(sentence + "a call has not ended");
        Runtime.getRuntime().halt(1);
    }

    /** Names the sentence of the document that the checks after it are due to. */
    static void sentence(String text) {
        sentence = text + ": ";
    }

    static void same(String what, long got, long want) {
        made++;
        if (got != want) {
            tell(what + " answered " + got + ", due is " + want);
        }
    }

    static void holds(String what, boolean held) {
        made++;
        if (!held) {
            tell(what);
        }
    }

    private static void tell(String text) {
        wrong++;
        if (wrong <= SHOWN) {
            System.out.println(sentence + text);
        }
    }

    /** The four answers that tell what the last run left. */
    static void left(String what, SafeClosures x, int kind, int value, int calls, int peak) {
        same(what + ": resultKind()", x.resultKind(), kind);
        same(what + ": resultValue()", x.resultValue(), value);
        same(what + ": callsUsed()", x.callsUsed(), calls);
        same(what + ": peakLive()", x.peakLive(), peak);
    }

    /** A program that gives an int, under the greatest limits. */
    static void gives(String text, int value, int calls, int peak) {
        SafeClosures x = State.items(text);
        same(text, x.run(), SafeClosures.OK);
        left(text, x, SafeClosures.KIND_INT, value, calls, peak);
    }

    /** A program that ends with an error, under the greatest limits. */
    static void fails(String text, int error, int calls, int peak) {
        SafeClosures x = State.items(text);
        same(text, x.run(), error);
        left(text, x, SafeClosures.KIND_NONE, 0, calls, peak);
    }

    static void end() {
        System.out.println(made + " checks, " + wrong + " not as due");
        if (made == 0 || wrong != 0) {
            System.exit(1);
        }
    }
}
