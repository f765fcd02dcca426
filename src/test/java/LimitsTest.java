/** "What it is": higher limits change no answer before the first run that the lower limits cut short. */
public final class LimitsTest {
    private static int cut = 0;
    private static int whole = 0;

    public static void main(String[] args) {
        for (int seed = 0; seed < 10000; seed++) {
            Calls calls = new Calls(seed).programs(4);
            int fuel = 1 + calls.below(12);
            int live = 2 + calls.below(4);
            int depth = 4 + calls.below(4);
            SafeClosures low = new SafeClosures(fuel, live, depth);
            int more = calls.below(8);
            compare(calls, low, new SafeClosures(
                fuel + ((more & 1) != 0 ? calls.below(100) : 0),
                live + ((more & 2) != 0 ? calls.below(32) : 0),
                depth + ((more & 4) != 0 ? calls.below(32) : 0)));
        }
        Check.holds("too few runs were cut short", cut > 1000);
        Check.holds("too few runs were not cut short", whole > 1000);
        Check.end();
    }

    private static void compare(Calls calls, SafeClosures low, SafeClosures high) {
        for (int[] call : calls.made) {
            int answer = Calls.give(low, call);
            boolean runs = call[0] == Calls.RUN || call[0] == Calls.CALL_RESULT;
            if (runs && answer >= SafeClosures.ERR_FUEL) {
                cut++;
                Check.holds("the cut run is refused under higher limits", Calls.give(high, call) != SafeClosures.REFUSED);
                return;
            }
            Check.same("higher limits: " + Calls.name(call), Calls.give(high, call), answer);
        }
        whole++;
    }
}
