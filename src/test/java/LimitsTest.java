/** "What it is": higher limits change no answer before the first run that the lower limits cut short. */
public final class LimitsTest {
    private static int cut = 0;
    private static int whole = 0;

    public static void main(String[] args) {
        Check.sentence("What it is: The limits only cut runs short");
        for (int seed = 0; seed < 10000; seed++) {
            Calls calls = new Calls(seed).programs(4);
            int fuel = 1 + calls.below(12);
            int live = 2 + calls.below(4);
            int depth = 4 + calls.below(4);
            SafeClosures low = new SafeClosures(fuel, live, depth);
            int more = calls.below(8);
            compare(calls, low, new SafeClosures(
                fuel + ((more & 1) != 0 ? calls.below(100) : 0),
                live + ((more & 2) != 0 ? calls.below(32) : 0),
                depth + ((more & 4) != 0 ? calls.below(32) : 0)));
        }
        clampedAlike();
        lowerLimitsCutShort();
        Check.holds("too few runs were cut short", cut > 1000);
        Check.holds("too few runs were not cut short", whole > 1000);
        Check.end();
    }

    private static void cutShort(int fuel, int live, int depth, String text, int status) {
        SafeClosures low = Source.object(fuel, live, depth, text);
        SafeClosures high = Source.object(100, 32, 32, text);
        Check.same(text + " under lower limits", low.run(), status);
        Check.same(text + " under higher limits", high.run(), SafeClosures.OK);
    }

    private static void lowerLimitsCutShort() {
        Check.sentence("What it is: with ERR_FUEL, ERR_DEPTH or ERR_MEMORY, never REFUSED");
        cutShort(1, 2, 4, "(app (lam v0 (app v0 1)) (lam v1 v1))", SafeClosures.ERR_FUEL);
        cutShort(1, 2, 4, "(+ 1 (+ 1 (+ 1 (+ 1 (+ 1 1)))))", SafeClosures.ERR_DEPTH);
        cutShort(1, 2, 4, "(let v0 (lam v3 3) (let v1 (lam v3 v0) (lam v3 v1)))", SafeClosures.ERR_MEMORY);
    }

    /** It is the clamped values that count: limits out of range are as high as the nearest in range. */
    private static void clampedAlike() {
        Check.sentence("What it is: whose clamped values satisfy f1<=f2, l1<=l2 and d1<=d2");
        int least = Integer.MIN_VALUE;
        int greatest = Integer.MAX_VALUE;
        int[][] lows = {{least, -1, 0}, {1, 2, 4}, {0, 1, 3}};
        int[][] highs = {{greatest, 33, 1000}, {100, 32, 32}, {101, greatest, 33}};
        for (int seed = 0; seed < 300; seed++) {
            for (int i = 0; i < lows.length; i++) {
                int next = (i + 1) % lows.length;
                compare(new Calls(seed).programs(4), made(lows[i]), made(lows[next]));
                compare(new Calls(seed).programs(4), made(highs[i]), made(highs[next]));
                compare(new Calls(seed).programs(4), made(lows[i]), made(highs[i]));
            }
        }
    }

    private static SafeClosures made(int[] limits) {
        return new SafeClosures(limits[0], limits[1], limits[2]);
    }

    private static void compare(Calls calls, SafeClosures low, SafeClosures high) {
        for (int[] call : calls.made) {
            int answer = Calls.give(low, call);
            if (Calls.isCutShort(call, answer)) {
                cut++;
                Check.holds("the cut run is refused under higher limits",
                    Calls.give(high, call) != SafeClosures.REFUSED);
                return;
            }
            Check.same("higher limits: " + Calls.name(call), Calls.give(high, call), answer);
        }
        whole++;
    }
}
